section HPC
variable {l : Launch} {own : String} {cc : ByteArray} {nL : Nat} {rt : Option FieldType} {ini : Bool} {X : Option (Nat × (Nat → Int32))} {d : Nat} {zr : Bool} {Q : Option Value → hp_H → Prop} {zz : Bool} {k n : Nat} {pc : Nat} {lv : List (Nat × Value)} {st : List Value} {h : hp_H}
theorem hp_max {idx : Nat} {x y : Int32} (hw : ∀ w ∈ ([.methodLink own idx Lib.Math.max.name, .static Lib.Math.max.name, .initialized "java/lang/Math", .code Lib.Math.max.name Lib.Math.max.code 2 (some .int)] : List Cond), w ∈ tg_) (hd : 1 ≤ d ∧ (st.map fun v => v.category).sum ≤ 8) (hdg : decode cc pc = .ok (.invokestatic idx, 3)) (kk : hp_G l (own, cc, nL, rt, ini) X d zr Q zz k n (pc + 3) lv (.int (if x < y then y else x) :: st) h) : hp_G l (own, cc, nL, rt, ini) X d zr Q zz k n pc lv (.int y :: .int x :: st) h := by
  intro p e R s m args below meth c Z D A b H locs ls cells slots mc ms F a1 a2 hP hS hl
  have hts := F.1.2.2.2.2.2.2.1
  have r1 := F.2.2.2.2.1
  exact va_mmax F.1.1 F.1.2.1 (F.1.2.2.1.trans hl.1.symm) F.1.2.2.2.2.1 (hts _ (hw _ (by simp))) (hts _ (hw _ (by simp))) (hts _ (hw _ (by simp))) (hts _ (hw _ (by simp))) (by omega) (by rw [hp_wcat]; omega) (by omega) (by omega) hdg (kk p e R s m args below meth c Z D A b H locs ls cells slots mc ms F a1 a2 hP hS hl)
theorem hp_min {idx : Nat} {x y : Int32} (hw : ∀ w ∈ ([.methodLink own idx Lib.Math.min.name, .static Lib.Math.min.name, .initialized "java/lang/Math", .code Lib.Math.min.name Lib.Math.min.code 2 (some .int)] : List Cond), w ∈ tg_) (hd : 1 ≤ d ∧ (st.map fun v => v.category).sum ≤ 8) (hdg : decode cc pc = .ok (.invokestatic idx, 3)) (kk : hp_G l (own, cc, nL, rt, ini) X d zr Q zz k n (pc + 3) lv (.int (if y < x then y else x) :: st) h) : hp_G l (own, cc, nL, rt, ini) X d zr Q zz k n pc lv (.int y :: .int x :: st) h := by
  intro p e R s m args below meth c Z D A b H locs ls cells slots mc ms F a1 a2 hP hS hl
  have hts := F.1.2.2.2.2.2.2.1
  have r1 := F.2.2.2.2.1
  exact va_mmin F.1.1 F.1.2.1 (F.1.2.2.1.trans hl.1.symm) F.1.2.2.2.2.1 (hts _ (hw _ (by simp))) (hts _ (hw _ (by simp))) (hts _ (hw _ (by simp))) (hts _ (hw _ (by simp))) (by omega) (by rw [hp_wcat]; omega) (by omega) (by omega) hdg (kk p e R s m args below meth c Z D A b H locs ls cells slots mc ms F a1 a2 hP hS hl)
theorem hp_new {C : String} {T : u_T} {N ci idx : Nat} (hin : ∀ w ∈ u_ws C T N, w ∈ tg_) (hc : vwCl[ci]? = some (C, T, N)) (ty : Nat → FieldType) (hty : ∀ k, k < N → parseFieldDescriptor (T k).2.2.1 = some (ty k)) {fs : List Value} (hfs : ∀ j, j < N → defaultValue (ty j) = vp_V fs j) (hfr : ∀ b, fs.map (hp_v b) = fs) (hw : ∀ w ∈ ([.classLink own idx C, .instantiable C N, .initialized C] : List Cond), w ∈ tg_) (hdg : decode cc pc = .ok (.new idx, 3)) (kk : hp_G l (own, cc, nL, rt, ini) X d zr Q true k n (pc + 3) lv (.ref h.length :: st) (h ++ [.inl (ci, fs)])) : hp_G l (own, cc, nL, rt, ini) X d zr Q true (k + 1) (n + N) pc lv st h := by
  intro p e R s m args below meth c Z D A b H locs ls cells slots mc ms F a1 a2 hP hS hl
  have hts := F.1.2.2.2.2.2.2.1
  have r1 := F.2.2.2.2.1
  have hKn := F.2.1.1.1 ci _ hc
  have hz := hP.1 rfl
  refine W.newcK (n := N) F.1.1 F.1.2.1 F.1.2.2.2.2.1 (hts _ (hw _ (by simp))) (hts _ (hw _ (by simp))) (hts _ (hw _ (by simp))) rfl hdg (by omega) (by omega) hKn.2.1 rfl fun H1 kC hkC e1 z1 o1 => ?_
  have hk : ∀ (k : Nat) (x : Nat × va_E), (hp_w A b h)[k]? = some x → H1[x.1]? = H[x.1]? := fun k x hx => o1 x.1 ((hP.2 k x hx).lt)
  have hP9 : va_P D vwCl (hp_w A b (h ++ [.inl (ci, fs)])) H1 := by
    rw [hp_w_app]
    refine (hP.2.kept hk).app (fun k x hx => ?_)
    have hzz : k < 1 := (List.getElem?_eq_some_iff.mp hx).1
    rw [show k = 0 by omega] at hx
    cases hx
    refine ⟨_, hc, ?_⟩
    show t_OB (b.1 + h.length) _ _ _ H1 (vp_V (fs.map (hp_v b)))
    rw [hfr b, ← hz]
    exact (u_born ty hts hin hKn hkC e1 hty).to hfs
  have hgo := kk p e R s m args below meth c Z D A b H1 locs ls (cells + 1) (slots + N) mc ms F (by omega) (by omega) ⟨fun _ => by rw [z1, hz]; simp; omega, hP9⟩ ⟨Nat.le_trans hS.1 (by omega), fun x h1 h2 => (o1 x (Nat.lt_of_lt_of_le h1 hS.1)).trans (hS.2.1 x h1 h2), hS.2.2⟩ hl
  rw [hz]
  exact hgo
theorem hp_newarr {q : Int32} {N : Nat} (hw : Cond.arrayClass .int ∈ tg_) (hq : ¬ q < 0) (hN : q.toNatClampNeg = N) (hNb : N ≤ 1000) (hdg : decode cc pc = .ok (.newarray .int, 2)) (kk : hp_G l (own, cc, nL, rt, ini) X d zr Q true k n (pc + 2) lv (.ref h.length :: st) (h ++ [.inr (.inl (N, fun _ => 0))])) : hp_G l (own, cc, nL, rt, ini) X d zr Q true (k + 1) (n + N) pc lv (.int q :: st) h := by
  intro p e R s m args below meth c Z D A b H locs ls cells slots mc ms F a1 a2 hP hS hl
  have hts := F.1.2.2.2.2.2.2.1
  have r1 := F.2.2.2.2.1
  have hz := hP.1 rfl
  refine va_newaK F.1.1 F.1.2.1 (atype := .int) (hts _ hw) rfl hdg rfl hq hN (by show N * 4 ≤ _; omega) (by omega) (by omega) rfl fun H1 cA e1 z1 o1 hAr hNm => ?_
  have hcA : cA = A 0 := Option.some.inj (hNm.symm.trans (F.2.1.1.2 0 _ rfl).2)
  subst hcA
  have hk : ∀ (k : Nat) (x : Nat × va_E), (hp_w A b h)[k]? = some x → H1[x.1]? = H[x.1]? := fun k x hx => o1 x.1 ((hP.2 k x hx).lt)
  have hP9 : va_P D vwCl (hp_w A b (h ++ [.inr (.inl (N, fun _ => 0))])) H1 := by
    rw [hp_w_app]
    refine (hP.2.kept hk).app (fun k x hx => ?_)
    have hzz : k < 1 := (List.getElem?_eq_some_iff.mp hx).1
    rw [show k = 0 by omega] at hx
    cases hx
    show H1[b.1 + h.length]? = some (vp_cell _ _)
    rw [← hz]
    exact e1
  have hgo := kk p e R s m args below meth c Z D A b H1 locs ls (cells + 1) (slots + N) mc ms F (by omega) (by omega) ⟨fun _ => by rw [z1, hz]; simp; omega, hP9⟩ ⟨Nat.le_trans hS.1 (by omega), fun x h1 h2 => (o1 x (Nat.lt_of_lt_of_le h1 hS.1)).trans (hS.2.1 x h1 h2), hS.2.2⟩ hl
  rw [hz]
  exact hgo
theorem hp_newref {C : String} {idx t N : Nat} {q : Int32} (ht : (t = 0 ∧ C = RX2) ∨ (t = 1 ∧ C = RX5)) (hw : Cond.classLink own idx C ∈ tg_) (hq : ¬ q < 0) (hN : q.toNatClampNeg = N) (hNb : N ≤ 1000) (hdg : decode cc pc = .ok (.anewarray idx, 3)) (kk : hp_G l (own, cc, nL, rt, ini) X d zr Q true k n (pc + 3) lv (.ref h.length :: st) (h ++ [.inr (.inr (t, N, fun _ => none))])) : hp_G l (own, cc, nL, rt, ini) X d zr Q true (k + 1) (n + N) pc lv (.int q :: st) h := by
  intro p e R s m args below meth c Z D A b H locs ls cells slots mc ms F a1 a2 hP hS hl
  have hts := F.1.2.2.2.2.2.2.1
  have r1 := F.2.2.2.2.1
  have hz := hP.1 rfl
  have hAO : va_AO C s := by
    rcases ht with ⟨-, rfl⟩ | ⟨-, rfl⟩
    · exact F.2.1.2.2.1
    · exact F.2.1.2.2.2
  have hRA : va_RA s (A (t + 1)) (.object C) := by
    rcases ht with ⟨rfl, rfl⟩ | ⟨rfl, rfl⟩
    · exact (F.2.1.1.2 1 _ rfl).2
    · exact (F.2.1.1.2 2 _ rfl).2
  subst hN
  refine W.anew F.1.1 F.1.2.1 F.1.2.2.2.2.1 (hts _ hw) (va_AO.use hAO) rfl hdg rfl hq (by omega) (by omega) (by omega) fun cA kA comp f1 f2 f3 f4 => ?_
  have hcA : cA = A (t + 1) := by
    obtain ⟨_, _, _, _, _, h4⟩ := hRA
    exact Option.some.inj (f1.symm.trans h4)
  subst hcA
  generalize hH1 : H.push ({ cls := A (t + 1), slots := Array.replicate q.toNatClampNeg .null, vm := .none } : Cell) = H1
  have z1 : H1.size = H.size + 1 := by rw [← hH1, Array.size_push]
  have e1 : H1[H.size]? = some (arrV (A (t + 1)) q.toNatClampNeg (fun _ => .null)) := by rw [← hH1, Array.getElem?_push_size, ← arrV_new]
  have o1 : ∀ q : Nat, q < H.size → H1[q]? = H[q]? := fun q hq => by rw [← hH1, Array.getElem?_push, if_neg (Nat.ne_of_lt hq)]
  have hk : ∀ (k : Nat) (x : Nat × va_E), (hp_w A b h)[k]? = some x → H1[x.1]? = H[x.1]? := fun k x hx => o1 x.1 ((hP.2 k x hx).lt)
  have hP9 : va_P D vwCl (hp_w A b (h ++ [.inr (.inr (t, q.toNatClampNeg, fun _ => none))])) H1 := by
    rw [hp_w_app]
    refine (hP.2.kept hk).app (fun k x hx => ?_)
    have hzz : k < 1 := (List.getElem?_eq_some_iff.mp hx).1
    rw [show k = 0 by omega] at hx
    cases hx
    show H1[b.1 + h.length]? = some (vp_cell _ _)
    rw [← hz]
    exact e1
  have hgo := kk p e R s m args below meth c Z D A b H1 locs ls (cells + 1) (slots + q.toNatClampNeg) mc ms F (by omega) (by omega) ⟨fun _ => by rw [z1, hz]; simp; omega, hP9⟩ ⟨Nat.le_trans hS.1 (by omega), fun x h1 h2 => (o1 x (Nat.lt_of_lt_of_le h1 hS.1)).trans (hS.2.1 x h1 h2), hS.2.2⟩ hl
  rw [hz]
  exact hgo
theorem hp_objInit {idx i : Nat} (hw : ∀ w ∈ ([.methodLink own idx objectInit, .instanceMethod objectInit, .code objectInit ⟨#[0xb1]⟩ 1 none] : List Cond), w ∈ tg_) (hd : 1 ≤ d ∧ (st.map fun v => v.category).sum ≤ 8) (hdg : decode cc pc = .ok (.invokespecial idx, 3)) (kk : hp_G l (own, cc, nL, rt, ini) X d zr Q zz k n (pc + 3) lv st h) : hp_G l (own, cc, nL, rt, ini) X d zr Q zz k n pc lv (.ref i :: st) h := by
  intro p e R s m args below meth c Z D A b H locs ls cells slots mc ms F a1 a2 hP hS hl
  have hts := F.1.2.2.2.2.2.2.1
  have r1 := F.2.2.2.2.1
  exact W.objInit F.1.1 F.1.2.1 F.1.2.2.2.2.1 (hts _ (hw _ (by simp))) (hts _ (hw _ (by simp))) (hts _ (hw _ (by simp))) rfl (by rw [F.1.2.2.1]; exact hl.1) rfl hdg (by omega) (by show 2 * 0 + _ + 12 ≤ _; rw [hp_wcat]; omega) (kk p e R s m args below meth c Z D A b H locs ls cells slots mc ms F a1 a2 hP hS hl)
end HPC
/-! contracts -/
def hp_Q (D : va_G) (A : Nat → ClassId) (b : Nat × Nat) (zz : Bool) (Q : Option Value → hp_H → Prop) : Array Value → State → Outcome → State → Prop := fun _ st oc t => ∃ (v : Option Value) (h : hp_H), oc = .returned (v.map (hp_v b)) ∧ Q v h ∧ hp_P D A b zz h t.heap ∧ va_F (fun q => b.1 ≤ q) st t
def hp_Pc (D : va_G) (A : Nat → ClassId) (b : Nat × Nat) (zz : Bool) (as : List Value) (h : hp_H) : Array Value → State → Prop := va_Pc (as.map (hp_v b)) (fun U => b.1 ≤ U.heap.size ∧ hp_P D A b zz h U.heap ∧ hp_K D A U)
def hp_Cn (l : Launch) (y : MethodName) (mi : hp_Mi) (d : Nat) (zz : Bool) (k n : Nat) (as : List Value) (h : hp_H) (Q : Option Value → hp_H → Prop) : Prop :=
  ∀ (D : va_G) (A : Nat → ClassId) (b : Nat × Nat), Met l y (.code y mi.2.1 mi.2.2.1 mi.2.2.2.1 :: tg_) { frames := d, cells := k, slots := n, locals := 40 * d } (hp_Pc D A b zz as h) (hp_Q D A b zz Q) k n (fun q => b.1 ≤ q)
theorem hp_slen' (b : Nat × Nat) (as : List Value) : (lg_sl (as.map (hp_v b))).length = (lg_sl as).length := by
  induction as with
  | nil => rfl
  | cons v t ih =>
    simp only [lg_sl, List.map_cons, List.flatMap_cons, List.length_append] at ih ⊢
    rw [ih, hp_vcat]
    congr 1
    split <;> rfl
theorem hp_args (b : Nat × Nat) (as : List Value) : ∀ i, lv_args i (as.map (hp_v b)) = hp_l b (lv_args i as) := by
  induction as with
  | nil => intro i; rfl
  | cons v t ih =>
    intro i
    simp only [List.map_cons, lv_args, hp_l]
    rw [hp_vcat, ih]
    rfl
theorem hp_of {l : Launch} {y : MethodName} {mi : hp_Mi} {d : Nat} {zz : Bool} {k n : Nat} {as : List Value} {h : hp_H} {Q : Option Value → hp_H → Prop} (hy : plainName y.cls = true) (hown : mi.1 = y.cls) (hini : mi.2.2.2.2 = true → y.name = "<init>") (hlen : (lg_sl as).length ≤ mi.2.2.1) (hg : hp_G l mi none d zz Q zz k n 0 (lv_args 0 as) [] h) : hp_Cn l y mi d zz k n as h Q := by
  intro D A b
  refine Met.ofW (cc := mi.2.1) (maxL := mi.2.2.1) (ret := mi.2.2.2.1) hy rfl ?_
  intro p e s m args below meth c s₁ B hml hv
  obtain ⟨rfl, hsz, hP, hK⟩ := hv
  have hts := atoms_spec (ws := .code y mi.2.1 mi.2.2.1 mi.2.2.2.1 :: tg_) B.pre
  have hl := lv_entry (as.map (hp_v b)) (n := mi.2.2.1) (by rw [hp_slen']; exact hlen)
  rw [lg_entry_eq]
  generalize (lg_sl (as.map (hp_v b)) ++ List.replicate (mi.2.2.1 - (lg_sl (as.map (hp_v b))).length) Slot.unset).toArray = ls at hl ⊢
  rw [hp_args] at hl
  refine hg p e _ s m _ below meth c _ D A b s.heap [] ls 0 0 k n ⟨⟨B.exec, B.bytes, hml, B.returns, by rw [hown]; exact findClass_of_methodNamed B.named, B.notSynchronized, fun w hw => hts w (List.mem_cons_of_mem _ hw), fun hi => ?_⟩, hK, hsz, (fun q h => by cases h), ⟨Nat.le_refl _, Nat.le_refl _, Nat.le_refl _, Nat.le_refl _⟩, ?_⟩ (by omega) (by omega) hP va_S.rf hl
  · rw [← hini hi]
    exact (name_of_methodNamed B.named B.method).1
  · intro v h H locs cells slots pc ls hq hP hS hc hs hd
    have hlocks := B.notSynchronized
    refine W.widen (k := k) (n := n) hc hs ?_
    match v, hq, hd with
    | none, hq, hd => exact W.vret B.exec B.bytes (B.returns.trans hd.2) (fun t ht hW => ⟨none, h, rfl, hq, by rw [ht]; exact hP, hS.F ht⟩) hS.2.2 hd.1
    | some (.int x), hq, hd =>
      obtain ⟨hd1, ty, hd2, hd3⟩ := hd
      exact W.zret B.exec B.bytes (B.returns.trans hd2) hd3 (fun t ht hW => ⟨some (.int x), h, rfl, hq, by rw [ht]; exact hP, hS.F ht⟩) hS.2.2 hd1
    | some (.long x), hq, hd => exact W.lret B.exec B.bytes (B.returns.trans hd.2) (fun t ht hW => ⟨some (.long x), h, rfl, hq, by rw [ht]; exact hP, hS.F ht⟩) hS.2.2 hd.1
    | some (.float _), hq, hd => exact hd.elim
    | some (.double _), hq, hd => exact hd.elim
    | some .null, hq, hd => exact hd.elim
    | some (.ref _), hq, hd => exact hd.elim
    | some (.retAddr _), hq, hd => exact hd.elim
theorem hp_blind (D : va_G) (A : Nat → ClassId) (b : Nat × Nat) (zz : Bool) (as : List Value) (h : hp_H) : FrameBlind (hp_Pc D A b zz as h) := fun a U g mk q => ⟨q.1, q.2.1, q.2.2.1, hp_K.same (s := U) (U := U.calling g mk a) rfl q.2.2.2⟩
/-- behind a call -/
theorem hp_after {p : Program} {l : Launch} {e : Env} {R : Room} {s : State} {m : MethodId} {args : Array Value} {below : List Frame} {meth : Method} {c : Code} {H : Heap} {locs : List Loc} {cells slots mc ms : Nat} {Z : State → Prop} {pc : Nat} {ls : Array Slot} {st0 rest : List Value} {a : Array Value} {D : va_G} {A : Nat → ClassId} {b : Nat × Nat} {zz : Bool} {Q' : Option Value → hp_H → Prop}
    (hr : va_Run p l e R s m args below meth c H locs cells slots mc ms (F0 m pc ls st0) rest (hp_Q D A b zz Q' a) (fun q => b.1 ≤ q)) (hS : va_S (fun q => b.1 ≤ q) s.heap H locs)
    (kk : ∀ (v : Option Value) (h : hp_H) (H1 : Heap) (locs1 : List Loc), Q' v h → hp_P D A b zz h H1 → va_S (fun q => b.1 ≤ q) s.heap H1 locs1 → W p l e R s m args below meth c H1 locs1 (cells + mc) (slots + ms) Z (F0 m (pc + 3) ls ((v.map (hp_v b)).toList ++ rest))) : W p l e R s m args below meth c H locs cells slots Z (F0 m pc ls st0) := by
  intro T hT X
  obtain ⟨v, st₀, t, T', L, h0, X', hL, e1, e2, ⟨v', h', hv, hq, hP, hz, hk⟩, st⟩ := hr T hT X
  cases hv
  rw [h0] at hz hk
  obtain ⟨t2, g1, g2⟩ := kk v' h' T'.heap (locs ++ L) hq (by rw [e1]; exact hP) ⟨Nat.le_trans hS.1 (by rw [e1]; exact hz), fun q h1 h2 => by rw [e1, hk q (Nat.lt_of_lt_of_le h1 hS.1) h2]; exact hS.2.1 q h1 h2, fun q hq => by
      rcases List.mem_append.mp hq with h | h
      · exact hS.2.2 q h
      · exact hL q h⟩ T' rfl X'
  exact ⟨t2, st t2 g1, g2⟩
theorem hp_stk (b : Nat × Nat) (v : Option Value) (st : List Value) : (v.toList ++ st).map (hp_v b) = (v.map (hp_v b)).toList ++ st.map (hp_v b) := by
  cases v <;> simp
section HPD
variable {l : Launch} {own : String} {cc : ByteArray} {nL : Nat} {rt : Option FieldType} {ini : Bool} {X : Option (Nat × (Nat → Int32))} {d : Nat} {zr : Bool} {Q : Option Value → hp_H → Prop} {zz : Bool} {k n : Nat} {pc : Nat} {lv : List (Nat × Value)} {st : List Value} {h : hp_H}
theorem hp_callV {y : MethodName} {mj : hp_Mi} {dj kj nj idx : Nat} {as : List Value} {Q' : Option Value → hp_H → Prop} {i ci : Nat} {fs : List Value} {T : u_T} {N : Nat} (hM : hp_Cn l y mj dj zz kj nj (.ref i :: as) h Q') (hd : dj + 1 ≤ d) (hL : mj.2.2.1 ≤ 21) (hrest : (st.map fun v => v.category).sum ≤ 8) (hyd : y.cls ≠ "java/lang/invoke/MethodHandle" ∧ y.cls ≠ "java/lang/invoke/VarHandle" ∧ (parseMethodDescriptor y.desc).map (fun d => d.parameters.length) = some as.length) (hwl : Cond.methodLink own idx y ∈ tg_) (hw : ∀ w ∈ ([.instanceMethod y, .selects y.cls y y, .initialized y.cls, .code y mj.2.1 mj.2.2.1 mj.2.2.2.1] : List Cond), w ∈ tg_) (ho : hg_o h i ci = some fs) (hc : vwCl[ci]? = some (y.cls, T, N)) (hdg : decode cc pc = .ok (.invokevirtual idx, 3)) {st0 : List Value} (hst : st0 = (as.reverse ++ .ref i :: st)) (kk : ∀ v h', Q' v h' → hp_G l (own, cc, nL, rt, ini) X d zr Q zz k n (pc + 3) lv (v.toList ++ st) h') : hp_G l (own, cc, nL, rt, ini) X d zr Q zz (kj + k) (nj + n) pc lv st0 h := by
  intro p e R s m args below meth c Z D A b H locs ls cells slots mc ms F a1 a2 hP hS hl
  subst hst
  have hS0 := hS
  have r1 := F.2.2.2.2.1
  have hts := F.1.2.2.2.2.2.2.1
  have hcf : CallFix p m c cc nL s args tg_ own := ⟨F.1.1, F.1.2.1, F.1.2.2.1, F.1.2.2.2.2.1, hts⟩
  have hGd : GoodIn tg_ (.code y mj.2.1 mj.2.2.1 mj.2.2.2.1 :: tg_) := hp_good (fun w hw' => by
    rcases List.mem_cons.mp hw' with rfl | h9
    · exact hw _ (by simp)
    · exact h9)
  refine hp_after (va_runV (C := y.cls) (As := as.map (hp_v b)) (rest := st.map (hp_v b)) (b := b.1 + i) hcf (hM D A b) ⟨callB_of as.length hts hGd rfl rfl rfl (hts _ (hw _ (by simp))) (hts _ hwl) hyd ⟨by show dj + 1 ≤ _; omega, by show 8 + (mj.2.2.1 + 11) + 40 * dj ≤ _; omega⟩, hts _ (hw _ (by simp)), hts _ (hw _ (by simp))⟩ ⟨hp_blind D A b zz _ h, va_recv F.2.1.1 hP.2 (ci := ci) (q0 := i) hc (hp_w_at (hg_o_inv ho)), fun U hU hW => ⟨rfl, by rw [hU]; exact Nat.le_trans F.2.2.1 hS.1, by rw [hU]; exact hP, F.2.1.warm hW⟩⟩ rfl (by rw [List.length_map]) hl.1 (show (F0 m pc ls _).stack = _ from by simp [hp_v]) (lv_room (by rw [hp_wcat]; exact hrest)) hdg ⟨by omega, by omega⟩) hS (fun v h' H1 locs1 hq hP1 hS1 => by
    have hgo := kk v h' hq p e R s m args below meth c Z D A b H1 locs1 ls (cells + kj) (slots + nj) mc ms F (by omega) (by omega) hP1 hS1 hl
    rw [hp_stk] at hgo
    exact hgo)
theorem hp_callVN {y : MethodName} {mj : hp_Mi} {dj kj nj idx : Nat} {as : List Value} {Q' : Option Value → hp_H → Prop} {i ci : Nat} {fs : List Value} {T : u_T} {N : Nat} {host : String} (hM : hp_Cn l y mj dj zz kj nj (.ref i :: as) h Q') (hd : dj + 1 ≤ d) (hL : mj.2.2.1 ≤ 21) (hrest : (st.map fun v => v.category).sum ≤ 8) (hyd : y.cls ≠ "java/lang/invoke/MethodHandle" ∧ y.cls ≠ "java/lang/invoke/VarHandle" ∧ (parseMethodDescriptor y.desc).map (fun d => d.parameters.length) = some as.length) (hwl : Cond.methodLinkNest own idx y host ∈ nw_) (hw : ∀ w ∈ ([.instanceMethod y, .selects y.cls y y, .initialized y.cls, .code y mj.2.1 mj.2.2.1 mj.2.2.2.1] : List Cond), w ∈ tg_) (ho : hg_o h i ci = some fs) (hc : vwCl[ci]? = some (y.cls, T, N)) (hdg : decode cc pc = .ok (.invokevirtual idx, 3)) {st0 : List Value} (hst : st0 = (as.reverse ++ .ref i :: st)) (kk : ∀ v h', Q' v h' → hp_G l (own, cc, nL, rt, ini) X d zr Q zz k n (pc + 3) lv (v.toList ++ st) h') : hp_G l (own, cc, nL, rt, ini) X d zr Q zz (kj + k) (nj + n) pc lv st0 h := by
  intro p e R s m args below meth c Z D A b H locs ls cells slots mc ms F a1 a2 hP hS hl
  subst hst
  have hS0 := hS
  have r1 := F.2.2.2.2.1
  have hts := F.1.2.2.2.2.2.2.1
  have hcf : CallFix p m c cc nL s args tg_ own := ⟨F.1.1, F.1.2.1, F.1.2.2.1, F.1.2.2.2.2.1, hts⟩
  have hGd : GoodIn tg_ (.code y mj.2.1 mj.2.2.1 mj.2.2.2.1 :: tg_) := hp_good (fun w hw' => by
    rcases List.mem_cons.mp hw' with rfl | h9
    · exact hw _ (by simp)
    · exact h9)
  refine hp_after (va_runVN (C := y.cls) (As := as.map (hp_v b)) (rest := st.map (hp_v b)) (b := b.1 + i) hcf (hM D A b) ⟨va_cnB as.length hts hGd rfl rfl rfl (F.2.1.2.1 _ hwl) (hts _ (hw _ (by simp))) hyd ⟨by show dj + 1 ≤ _; omega, by show 8 + (mj.2.2.1 + 11) + 40 * dj ≤ _; omega⟩, hts _ (hw _ (by simp)), hts _ (hw _ (by simp))⟩ ⟨hp_blind D A b zz _ h, va_recv F.2.1.1 hP.2 (ci := ci) (q0 := i) hc (hp_w_at (hg_o_inv ho)), fun U hU hW => ⟨rfl, by rw [hU]; exact Nat.le_trans F.2.2.1 hS.1, by rw [hU]; exact hP, F.2.1.warm hW⟩⟩ rfl (by rw [List.length_map]) hl.1 (show (F0 m pc ls _).stack = _ from by simp [hp_v]) (lv_room (by rw [hp_wcat]; exact hrest)) hdg ⟨by omega, by omega⟩) hS (fun v h' H1 locs1 hq hP1 hS1 => by
    have hgo := kk v h' hq p e R s m args below meth c Z D A b H1 locs1 ls (cells + kj) (slots + nj) mc ms F (by omega) (by omega) hP1 hS1 hl
    rw [hp_stk] at hgo
    exact hgo)
theorem hp_callS {y : MethodName} {mj : hp_Mi} {dj kj nj idx : Nat} {as : List Value} {Q' : Option Value → hp_H → Prop} (hM : hp_Cn l y mj dj zz kj nj as h Q') (hd : dj + 1 ≤ d) (hL : mj.2.2.1 ≤ 21) (hrest : (st.map fun v => v.category).sum ≤ 8) (hyd : y.cls ≠ "java/lang/invoke/MethodHandle" ∧ y.cls ≠ "java/lang/invoke/VarHandle" ∧ (parseMethodDescriptor y.desc).map (fun d => d.parameters.length) = some as.length) (hwl : Cond.methodLink own idx y ∈ tg_) (hw : ∀ w ∈ ([.static y, .initialized y.cls, .code y mj.2.1 mj.2.2.1 mj.2.2.2.1] : List Cond), w ∈ tg_)  (hdg : decode cc pc = .ok (.invokestatic idx, 3)) {st0 : List Value} (hst : st0 = (as.reverse ++ st)) (kk : ∀ v h', Q' v h' → hp_G l (own, cc, nL, rt, ini) X d zr Q zz k n (pc + 3) lv (v.toList ++ st) h') : hp_G l (own, cc, nL, rt, ini) X d zr Q zz (kj + k) (nj + n) pc lv st0 h := by
  intro p e R s m args below meth c Z D A b H locs ls cells slots mc ms F a1 a2 hP hS hl
  subst hst
  have hS0 := hS
  have r1 := F.2.2.2.2.1
  have hts := F.1.2.2.2.2.2.2.1
  have hcf : CallFix p m c cc nL s args tg_ own := ⟨F.1.1, F.1.2.1, F.1.2.2.1, F.1.2.2.2.2.1, hts⟩
  have hGd : GoodIn tg_ (.code y mj.2.1 mj.2.2.1 mj.2.2.2.1 :: tg_) := hp_good (fun w hw' => by
    rcases List.mem_cons.mp hw' with rfl | h9
    · exact hw _ (by simp)
    · exact h9)
  refine hp_after (va_runS (As := as.map (hp_v b)) (rest := st.map (hp_v b)) hcf (hM D A b) ⟨callB_of as.length hts hGd rfl rfl rfl (hts _ (hw _ (by simp))) (hts _ hwl) hyd ⟨by show dj + 1 ≤ _; omega, by show 8 + (mj.2.2.1 + 11) + 40 * dj ≤ _; omega⟩, hts _ (hw _ (by simp))⟩ ⟨hp_blind D A b zz _ h, fun U hU hW => ⟨rfl, by rw [hU]; exact Nat.le_trans F.2.2.1 hS.1, by rw [hU]; exact hP, F.2.1.warm hW⟩⟩ rfl (by rw [List.length_map]) hl.1 (show (F0 m pc ls _).stack = _ from by simp) (lv_room (by rw [hp_wcat]; exact hrest)) hdg ⟨by omega, by omega⟩) hS (fun v h' H1 locs1 hq hP1 hS1 => by
    have hgo := kk v h' hq p e R s m args below meth c Z D A b H1 locs1 ls (cells + kj) (slots + nj) mc ms F (by omega) (by omega) hP1 hS1 hl
    rw [hp_stk] at hgo
    exact hgo)
theorem hp_callSN {y : MethodName} {mj : hp_Mi} {dj kj nj idx : Nat} {as : List Value} {Q' : Option Value → hp_H → Prop} {host : String} (hM : hp_Cn l y mj dj zz kj nj as h Q') (hd : dj + 1 ≤ d) (hL : mj.2.2.1 ≤ 21) (hrest : (st.map fun v => v.category).sum ≤ 8) (hyd : y.cls ≠ "java/lang/invoke/MethodHandle" ∧ y.cls ≠ "java/lang/invoke/VarHandle" ∧ (parseMethodDescriptor y.desc).map (fun d => d.parameters.length) = some as.length) (hwl : Cond.methodLinkNest own idx y host ∈ nw_) (hw : ∀ w ∈ ([.static y, .initialized y.cls, .code y mj.2.1 mj.2.2.1 mj.2.2.2.1] : List Cond), w ∈ tg_)  (hdg : decode cc pc = .ok (.invokestatic idx, 3)) {st0 : List Value} (hst : st0 = (as.reverse ++ st)) (kk : ∀ v h', Q' v h' → hp_G l (own, cc, nL, rt, ini) X d zr Q zz k n (pc + 3) lv (v.toList ++ st) h') : hp_G l (own, cc, nL, rt, ini) X d zr Q zz (kj + k) (nj + n) pc lv st0 h := by
  intro p e R s m args below meth c Z D A b H locs ls cells slots mc ms F a1 a2 hP hS hl
  subst hst
  have hS0 := hS
  have r1 := F.2.2.2.2.1
  have hts := F.1.2.2.2.2.2.2.1
  have hcf : CallFix p m c cc nL s args tg_ own := ⟨F.1.1, F.1.2.1, F.1.2.2.1, F.1.2.2.2.2.1, hts⟩
  have hGd : GoodIn tg_ (.code y mj.2.1 mj.2.2.1 mj.2.2.2.1 :: tg_) := hp_good (fun w hw' => by
    rcases List.mem_cons.mp hw' with rfl | h9
    · exact hw _ (by simp)
    · exact h9)
  refine hp_after (va_runSN (As := as.map (hp_v b)) (rest := st.map (hp_v b)) hcf (hM D A b) ⟨va_cnB as.length hts hGd rfl rfl rfl (F.2.1.2.1 _ hwl) (hts _ (hw _ (by simp))) hyd ⟨by show dj + 1 ≤ _; omega, by show 8 + (mj.2.2.1 + 11) + 40 * dj ≤ _; omega⟩, hts _ (hw _ (by simp)), trivial⟩ ⟨hp_blind D A b zz _ h, fun U hU hW => ⟨rfl, by rw [hU]; exact Nat.le_trans F.2.2.1 hS.1, by rw [hU]; exact hP, F.2.1.warm hW⟩⟩ rfl (by rw [List.length_map]) hl.1 (show (F0 m pc ls _).stack = _ from by simp) (lv_room (by rw [hp_wcat]; exact hrest)) hdg ⟨by omega, by omega⟩) hS (fun v h' H1 locs1 hq hP1 hS1 => by
    have hgo := kk v h' hq p e R s m args below meth c Z D A b H1 locs1 ls (cells + kj) (slots + nj) mc ms F (by omega) (by omega) hP1 hS1 hl
    rw [hp_stk] at hgo
    exact hgo)
theorem hp_callI {y : MethodName} {mj : hp_Mi} {dj kj nj idx : Nat} {as : List Value} {Q' : Option Value → hp_H → Prop} {i : Nat} (hM : hp_Cn l y mj dj zz kj nj (.ref i :: as) h Q') (hd : dj + 1 ≤ d) (hL : mj.2.2.1 ≤ 21) (hrest : (st.map fun v => v.category).sum ≤ 8) (hyd : y.cls ≠ "java/lang/invoke/MethodHandle" ∧ y.cls ≠ "java/lang/invoke/VarHandle" ∧ (parseMethodDescriptor y.desc).map (fun d => d.parameters.length) = some as.length) (hwl : Cond.methodLink own idx y ∈ tg_) (hw : ∀ w ∈ ([.instanceMethod y, .initialized y.cls, .code y mj.2.1 mj.2.2.1 mj.2.2.2.1] : List Cond), w ∈ tg_) (hy1 : y.name = "<init>") (hvr : mj.2.2.2.1 = none) (hdg : decode cc pc = .ok (.invokespecial idx, 3)) {st0 : List Value} (hst : st0 = (as.reverse ++ .ref i :: st)) (kk : ∀ v h', Q' v h' → hp_G l (own, cc, nL, rt, ini) X d zr Q zz k n (pc + 3) lv (v.toList ++ st) h') : hp_G l (own, cc, nL, rt, ini) X d zr Q zz (kj + k) (nj + n) pc lv st0 h := by
  intro p e R s m args below meth c Z D A b H locs ls cells slots mc ms F a1 a2 hP hS hl
  subst hst
  have hS0 := hS
  have r1 := F.2.2.2.2.1
  have hts := F.1.2.2.2.2.2.2.1
  have hcf : CallFix p m c cc nL s args tg_ own := ⟨F.1.1, F.1.2.1, F.1.2.2.1, F.1.2.2.2.2.1, hts⟩
  have hGd : GoodIn tg_ (.code y mj.2.1 mj.2.2.1 mj.2.2.2.1 :: tg_) := hp_good (fun w hw' => by
    rcases List.mem_cons.mp hw' with rfl | h9
    · exact hw _ (by simp)
    · exact h9)
  obtain ⟨m1, m2, m3, m4, m5⟩ := mj
  dsimp only at hvr
  subst hvr
  refine hp_after (va_runI (As := as.map (hp_v b)) (rest := st.map (hp_v b)) (b := b.1 + i) hcf (hM D A b) ⟨callB_of as.length hts hGd rfl rfl rfl (hts _ (hw _ (by simp))) (hts _ hwl) hyd ⟨by show dj + 1 ≤ _; omega, by show 8 + (m3 + 11) + 40 * dj ≤ _; have hL9 : m3 ≤ 21 := hL; omega⟩, hy1, hts _ (hw _ (by simp))⟩ ⟨hp_blind D A b zz _ h, fun U hU hW => ⟨rfl, by rw [hU]; exact Nat.le_trans F.2.2.1 hS.1, by rw [hU]; exact hP, F.2.1.warm hW⟩⟩ rfl (by rw [List.length_map]) hl.1 (show (F0 m pc ls _).stack = _ from by simp [hp_v]) (lv_room (by rw [hp_wcat]; exact hrest)) hdg ⟨by omega, by omega⟩) hS (fun v h' H1 locs1 hq hP1 hS1 => by
    have hgo := kk v h' hq p e R s m args below meth c Z D A b H1 locs1 ls (cells + kj) (slots + nj) mc ms F (by omega) (by omega) hP1 hS1 hl
    rw [hp_stk] at hgo
    exact hgo)
theorem hp_callIN {y : MethodName} {mj : hp_Mi} {dj kj nj idx : Nat} {as : List Value} {Q' : Option Value → hp_H → Prop} {i : Nat} {host : String} (hM : hp_Cn l y mj dj zz kj nj (.ref i :: as) h Q') (hd : dj + 1 ≤ d) (hL : mj.2.2.1 ≤ 21) (hrest : (st.map fun v => v.category).sum ≤ 8) (hyd : y.cls ≠ "java/lang/invoke/MethodHandle" ∧ y.cls ≠ "java/lang/invoke/VarHandle" ∧ (parseMethodDescriptor y.desc).map (fun d => d.parameters.length) = some as.length) (hwl : Cond.methodLinkNest own idx y host ∈ nw_) (hw : ∀ w ∈ ([.instanceMethod y, .initialized y.cls, .code y mj.2.1 mj.2.2.1 mj.2.2.2.1] : List Cond), w ∈ tg_) (hy1 : y.name = "<init>") (hvr : mj.2.2.2.1 = none) (hdg : decode cc pc = .ok (.invokespecial idx, 3)) {st0 : List Value} (hst : st0 = (as.reverse ++ .ref i :: st)) (kk : ∀ v h', Q' v h' → hp_G l (own, cc, nL, rt, ini) X d zr Q zz k n (pc + 3) lv (v.toList ++ st) h') : hp_G l (own, cc, nL, rt, ini) X d zr Q zz (kj + k) (nj + n) pc lv st0 h := by
  intro p e R s m args below meth c Z D A b H locs ls cells slots mc ms F a1 a2 hP hS hl
  subst hst
  have hS0 := hS
  have r1 := F.2.2.2.2.1
  have hts := F.1.2.2.2.2.2.2.1
  have hcf : CallFix p m c cc nL s args tg_ own := ⟨F.1.1, F.1.2.1, F.1.2.2.1, F.1.2.2.2.2.1, hts⟩
  have hGd : GoodIn tg_ (.code y mj.2.1 mj.2.2.1 mj.2.2.2.1 :: tg_) := hp_good (fun w hw' => by
    rcases List.mem_cons.mp hw' with rfl | h9
    · exact hw _ (by simp)
    · exact h9)
  obtain ⟨m1, m2, m3, m4, m5⟩ := mj
  dsimp only at hvr
  subst hvr
  refine hp_after (va_runIN (As := as.map (hp_v b)) (rest := st.map (hp_v b)) (b := b.1 + i) hcf (hM D A b) ⟨va_cnB as.length hts hGd rfl rfl rfl (F.2.1.2.1 _ hwl) (hts _ (hw _ (by simp))) hyd ⟨by show dj + 1 ≤ _; omega, by show 8 + (m3 + 11) + 40 * dj ≤ _; have hL9 : m3 ≤ 21 := hL; omega⟩, hy1, hts _ (hw _ (by simp))⟩ ⟨hp_blind D A b zz _ h, fun U hU hW => ⟨rfl, by rw [hU]; exact Nat.le_trans F.2.2.1 hS.1, by rw [hU]; exact hP, F.2.1.warm hW⟩⟩ rfl (by rw [List.length_map]) hl.1 (show (F0 m pc ls _).stack = _ from by simp [hp_v]) (lv_room (by rw [hp_wcat]; exact hrest)) hdg ⟨by omega, by omega⟩) hS (fun v h' H1 locs1 hq hP1 hS1 => by
    have hgo := kk v h' hq p e R s m args below meth c Z D A b H1 locs1 ls (cells + kj) (slots + nj) mc ms F (by omega) (by omega) hP1 hS1 hl
    rw [hp_stk] at hgo
    exact hgo)
end HPD
/-! loops: a body that goes on or ends, with fuel -/
def it_ {S X : Type} (f : S → Option (S ⊕ X)) : Nat → S → Option X
  | 0, _ => none
  | n + 1, s => (f s).bind fun r => match r with
    | .inl t => it_ f n t
    | .inr x => some x
theorem it_rule {S X : Type} {f : S → Option (S ⊕ X)} (P : S → Prop) (E : X → Prop) (hs : ∀ s r, f s = some r → (∀ t, r = .inl t → P t) → (∀ x, r = .inr x → E x) → P s) : ∀ n s x, it_ f n s = some x → E x → P s := by
  intro n
  induction n with
  | zero => intro s x h; cases h
  | succ n ih =>
    intro s x h hE
    obtain ⟨r, h1, h2⟩ := ob_ h
    refine hs s r h1 (fun t e => ?_) (fun y e => ?_)
    · subst e
      exact ih t x h2 hE
    · subst e
      cases h2
      exact hE
def fu_ : Nat := 5000
