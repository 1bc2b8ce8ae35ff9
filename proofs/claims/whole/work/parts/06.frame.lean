/-! the pure heap: a list of cells; a reference is a place in it; (.float 0) stands for the law's script -/
abbrev hp_C : Type := (Nat × List Value) ⊕ ((Nat × (Nat → Int32)) ⊕ (Nat × Nat × (Nat → Option Nat)))
abbrev hp_H : Type := List hp_C
def hp_v (b : Nat × Nat) : Value → Value
  | .ref i => .ref (b.1 + i)
  | .float _ => .ref b.2
  | v => v
theorem hp_vcat (b : Nat × Nat) (v : Value) : (hp_v b v).category = v.category := by cases v <;> rfl
def hp_e (A : Nat → ClassId) (b : Nat × Nat) : hp_C → va_E
  | .inl o => .inr (o.1, o.2.map (hp_v b))
  | .inr (.inl a) => .inl (A 0, a.1, .inl a.2)
  | .inr (.inr a) => .inl (A (a.1 + 1), a.2.1, .inr (.inr (.inr (.inr (fun j => (a.2.2 j).map (fun i => b.1 + i))))))
def hp_w (A : Nat → ClassId) (b : Nat × Nat) (h : hp_H) : va_W := h.mapIdx (fun i c => (b.1 + i, hp_e A b c))
def hp_l (b : Nat × Nat) (lv : List (Nat × Value)) : List (Nat × Value) := lv.map (fun q => (q.1, hp_v b q.2))
theorem hp_w_at {A : Nat → ClassId} {b : Nat × Nat} {h : hp_H} {i : Nat} {c : hp_C} (hc : h[i]? = some c) : (hp_w A b h)[i]? = some (b.1 + i, hp_e A b c) := by
  simp [hp_w, hc]
theorem hp_w_set {A : Nat → ClassId} {b : Nat × Nat} (h : hp_H) (i : Nat) (c : hp_C) : (hp_w A b h).set i (b.1 + i, hp_e A b c) = hp_w A b (h.set i c) := by
  apply List.ext_getElem?
  intro j
  by_cases hj : i = j
  · subst hj
    by_cases hl : i < h.length
    · simp [hp_w, List.getElem?_set, hl]
    · simp [hp_w, List.getElem?_set, hl]
  · simp [hp_w, List.getElem?_set, hj]
theorem hp_w_app {A : Nat → ClassId} {b : Nat × Nat} (h : hp_H) (c : hp_C) : hp_w A b (h ++ [c]) = hp_w A b h ++ [(b.1 + h.length, hp_e A b c)] := by
  simp [hp_w, List.mapIdx_append]
theorem hp_w_inv {A : Nat → ClassId} {b : Nat × Nat} {h : hp_H} {i : Nat} {q : Nat × va_E} (hq : (hp_w A b h)[i]? = some q) : q.1 = b.1 + i := by
  simp only [hp_w, List.getElem?_mapIdx] at hq
  cases hc : h[i]? with
  | none => simp [hc] at hq
  | some c => simp [hc] at hq; rw [← hq]
theorem hp_D (A : Nat → ClassId) (b : Nat × Nat) (h : hp_H) : va_D (fun q => b.1 ≤ q) (hp_w A b h) := by
  refine ⟨fun i j p q h1 h2 e => ?_, fun k q h1 => ?_⟩
  · have a1 := hp_w_inv h1
    have a2 := hp_w_inv h2
    omega
  · have a1 := hp_w_inv h1
    show b.1 ≤ q.1
    omega
def hp_P (D : va_G) (A : Nat → ClassId) (b : Nat × Nat) (zz : Bool) (h : hp_H) (H : Heap) : Prop := (zz = true → H.size = b.1 + h.length) ∧ va_P D vwCl (hp_w A b h) H
def hp_K (D : va_G) (A : Nat → ClassId) (U : State) : Prop := va_K D vwCl [(A 0, .int), (A 1, .object RX2), (A 2, .object RX5)] U ∧ (∀ w ∈ nw_, va_Nw w U) ∧ va_AO RX2 U ∧ va_AO RX5 U
theorem hp_K.warm {D : va_G} {A : Nat → ClassId} {s U : State} (hW : s.WarmedH U.vm) (h : hp_K D A s) : hp_K D A U := by
  refine ⟨va_K.moved hW.alike h.1, fun w hw => ?_, h.2.2.1.moved hW.alike, h.2.2.2.moved hW.alike⟩
  have h0 := h.2.1 w hw
  have h1 := (List.mem_filter.mp hw).2
  cases w <;> first | (exact va_Nw.warmF hW h0) | (exact va_Nw.warmM hW h0) | (exact absurd h1 (by simp [isN_]))
theorem hp_K.same {D : va_G} {A : Nat → ClassId} {s U : State} (hv : s.vm = U.vm) (h : hp_K D A s) : hp_K D A U := by
  have hal : s.vm.Alike U.vm := by rw [hv]; exact Vm.Alike.refl _
  refine ⟨va_K.moved hal h.1, fun w hw => ?_, h.2.2.1.moved hal, h.2.2.2.moved hal⟩
  have h0 := h.2.1 w hw
  have h1 := (List.mem_filter.mp hw).2
  cases w <;> first | (exact va_Nw.same rfl hv h0) | (exact absurd h1 (by simp [isN_]))
/-! a method's fixed things: its class's name, code, locals, answer's type, whether it is a constructor -/
abbrev hp_Mi : Type := String × ByteArray × Nat × Option FieldType × Bool
def hp_M (p : Program) (s : State) (m : MethodId) (args : Array Value) (meth : Method) (c : Code) (mi : hp_Mi) : Prop :=
  p.tables.exec = Jvm.exec ∧ c.code = mi.2.1 ∧ c.maxLocals = mi.2.2.1 ∧ meth.sig.returnType = mi.2.2.2.1 ∧ s.vm.findClass mi.1 = some m.cls ∧ meth.locks = false ∧ (∀ w ∈ tg_, w.before args s = true) ∧ (mi.2.2.2.2 = true → meth.name = "<init>")
def hp_X (X : Option (Nat × (Nat → Int32))) (b : Nat × Nat) (s : State) : Prop := ∀ q, X = some q → va_X b.2 q.1 q.2 s s.heap ∧ b.2 < s.heap.size ∧ b.2 < b.1
def hp_dec (mi : hp_Mi) (pc : Nat) : Option Value → Prop
  | none => decode mi.2.1 pc = .ok (.return_, 1) ∧ mi.2.2.2.1 = none
  | some (.int x) => decode mi.2.1 pc = .ok (.ireturn, 1) ∧ ∃ ty, mi.2.2.2.1 = some ty ∧ narrow ty (.int x) = .int x
  | some (.long _) => decode mi.2.1 pc = .ok (.lreturn, 1) ∧ mi.2.2.2.1 = some .long
  | _ => False
/-- what a return leads to -/
def hp_R (p : Program) (l : Launch) (e : Env) (R : Room) (s : State) (m : MethodId) (args : Array Value) (below : List Frame) (meth : Method) (c : Code) (mi : hp_Mi) (D : va_G) (A : Nat → ClassId) (b : Nat × Nat) (zr : Bool) (Q : Option Value → hp_H → Prop) (mc ms : Nat) (Z : State → Prop) : Prop :=
  ∀ (v : Option Value) (h : hp_H) (H : Heap) (locs : List Loc) (cells slots pc : Nat) (ls : Array Slot), Q v h → hp_P D A b zr h H → va_S (fun q => b.1 ≤ q) s.heap H locs → cells ≤ mc → slots ≤ ms → hp_dec mi pc v →
    W p l e R s m args below meth c H locs cells slots Z (F0 m pc ls (v.toList.map (hp_v b)))
def hp_F (p : Program) (l : Launch) (e : Env) (R : Room) (s : State) (m : MethodId) (args : Array Value) (below : List Frame) (meth : Method) (c : Code) (mi : hp_Mi) (X : Option (Nat × (Nat → Int32))) (d : Nat) (D : va_G) (A : Nat → ClassId) (b : Nat × Nat) (zr : Bool) (Q : Option Value → hp_H → Prop) (mc ms : Nat) (Z : State → Prop) : Prop :=
  hp_M p s m args meth c mi ∧ hp_K D A s ∧ b.1 ≤ s.heap.size ∧ hp_X X b s ∧ (d ≤ R.frames ∧ 40 * d ≤ R.locals ∧ mc ≤ R.cells ∧ ms ≤ R.slots) ∧ hp_R p l e R s m args below meth c mi D A b zr Q mc ms Z
/-- THE JUDGEMENT: from this frame over this pure heap every run of the method ends with Q -/
def hp_G (l : Launch) (mi : hp_Mi) (X : Option (Nat × (Nat → Int32))) (d : Nat) (zr : Bool) (Q : Option Value → hp_H → Prop) (zz : Bool) (k n : Nat) (pc : Nat) (lv : List (Nat × Value)) (st : List Value) (h : hp_H) : Prop :=
  ∀ (p : Program) (e : Env) (R : Room) (s : State) (m : MethodId) (args : Array Value) (below : List Frame) (meth : Method) (c : Code) (Z : State → Prop) (D : va_G) (A : Nat → ClassId) (b : Nat × Nat) (H : Heap) (locs : List Loc) (ls : Array Slot) (cells slots mc ms : Nat),
    hp_F p l e R s m args below meth c mi X d D A b zr Q mc ms Z → cells + k ≤ mc → slots + n ≤ ms → hp_P D A b zz h H → va_S (fun q => b.1 ≤ q) s.heap H locs → lv_has ls mi.2.2.1 (hp_l b lv) →
    W p l e R s m args below meth c H locs cells slots Z (F0 m pc ls (st.map (hp_v b)))
theorem hp_lat {b : Nat × Nat} {lv : List (Nat × Value)} {j i : Nat} {v : Value} (h : lv[j]? = some (i, v)) : (hp_l b lv)[j]? = some (i, hp_v b v) := by
  simp [hp_l, h]
def hp_st1 (lv : List (Nat × Value)) (i : Nat) (v : Value) : List (Nat × Value) := (i, v) :: lv.filter (fun q => !(q.1 == i) && !(q.1 + 1 == i && q.2.category == 2))
def hp_st2 (lv : List (Nat × Value)) (i : Nat) (v : Value) : List (Nat × Value) := (i, v) :: lv.filter (fun q => !(q.1 == i) && (!(q.1 == i + 1) && !(q.1 + 1 == i && q.2.category == 2)))
theorem hp_lst1 {b : Nat × Nat} {lv lv' : List (Nat × Value)} {i : Nat} {v : Value} (h : hp_st1 lv i v = lv') : (i, hp_v b v) :: (hp_l b lv).filter (fun q => !(q.1 == i) && !(q.1 + 1 == i && q.2.category == 2)) = hp_l b lv' := by
  subst h
  simp only [hp_st1, hp_l, List.map_cons, List.filter_map]
  congr 2
  apply List.filter_congr
  intro q hq
  simp [Function.comp, hp_vcat]
theorem hp_lst2 {b : Nat × Nat} {lv lv' : List (Nat × Value)} {i : Nat} {v : Value} (h : hp_st2 lv i v = lv') : (i, hp_v b v) :: (hp_l b lv).filter (fun q => !(q.1 == i) && (!(q.1 == i + 1) && !(q.1 + 1 == i && q.2.category == 2))) = hp_l b lv' := by
  subst h
  simp only [hp_st2, hp_l, List.map_cons, List.filter_map]
  congr 2
  apply List.filter_congr
  intro q hq
  simp [Function.comp, hp_vcat]

section HPR
variable {l : Launch} {own : String} {cc : ByteArray} {nL : Nat} {rt : Option FieldType} {ini : Bool} {X : Option (Nat × (Nat → Int32))} {d : Nat} {zr : Bool} {Q : Option Value → hp_H → Prop} {zz : Bool} {k n : Nat} {pc : Nat} {lv : List (Nat × Value)} {st : List Value} {h : hp_H}
theorem hp_iload_n {q : Fin 4} {i : Nat} {x : Int32} (j : Nat) (hdg : decode cc pc = .ok (.iload_n q, 1)) (hi : (q : Nat) = i) (hk : lv[j]? = some (i, .int x)) (kk : hp_G l (own, cc, nL, rt, ini) X d zr Q zz k n (pc + 1) lv (.int x :: st) h) : hp_G l (own, cc, nL, rt, ini) X d zr Q zz k n pc lv st h := by
  intro p e R s m args below meth c Z D A b H locs ls cells slots mc ms F a1 a2 hP hS hl
  exact lv_iload_n F.1.1 F.1.2.1 hdg hi (lv_at hl j (hp_lat hk)) (kk p e R s m args below meth c Z D A b H locs ls cells slots mc ms F a1 a2 hP hS hl)
theorem hp_iload {i : Nat} {x : Int32} (j : Nat) (hdg : decode cc pc = .ok (.iload i, 2)) (hk : lv[j]? = some (i, .int x)) (kk : hp_G l (own, cc, nL, rt, ini) X d zr Q zz k n (pc + 2) lv (.int x :: st) h) : hp_G l (own, cc, nL, rt, ini) X d zr Q zz k n pc lv st h := by
  intro p e R s m args below meth c Z D A b H locs ls cells slots mc ms F a1 a2 hP hS hl
  exact lv_iload F.1.1 F.1.2.1 hdg (lv_at hl j (hp_lat hk)) (kk p e R s m args below meth c Z D A b H locs ls cells slots mc ms F a1 a2 hP hS hl)
theorem hp_lload_n {q : Fin 4} {i : Nat} {x : Int64} (j : Nat) (hdg : decode cc pc = .ok (.lload_n q, 1)) (hi : (q : Nat) = i) (hk : lv[j]? = some (i, .long x)) (kk : hp_G l (own, cc, nL, rt, ini) X d zr Q zz k n (pc + 1) lv (.long x :: st) h) : hp_G l (own, cc, nL, rt, ini) X d zr Q zz k n pc lv st h := by
  intro p e R s m args below meth c Z D A b H locs ls cells slots mc ms F a1 a2 hP hS hl
  exact lv_lload_n F.1.1 F.1.2.1 hdg hi (lv_at hl j (hp_lat hk)) (kk p e R s m args below meth c Z D A b H locs ls cells slots mc ms F a1 a2 hP hS hl)
theorem hp_lload {i : Nat} {x : Int64} (j : Nat) (hdg : decode cc pc = .ok (.lload i, 2)) (hk : lv[j]? = some (i, .long x)) (kk : hp_G l (own, cc, nL, rt, ini) X d zr Q zz k n (pc + 2) lv (.long x :: st) h) : hp_G l (own, cc, nL, rt, ini) X d zr Q zz k n pc lv st h := by
  intro p e R s m args below meth c Z D A b H locs ls cells slots mc ms F a1 a2 hP hS hl
  exact lv_lload F.1.1 F.1.2.1 hdg (lv_at hl j (hp_lat hk)) (kk p e R s m args below meth c Z D A b H locs ls cells slots mc ms F a1 a2 hP hS hl)
theorem hp_aload_n {q : Fin 4} {i : Nat} {x : Nat} (j : Nat) (hdg : decode cc pc = .ok (.aload_n q, 1)) (hi : (q : Nat) = i) (hk : lv[j]? = some (i, .ref x)) (kk : hp_G l (own, cc, nL, rt, ini) X d zr Q zz k n (pc + 1) lv (.ref x :: st) h) : hp_G l (own, cc, nL, rt, ini) X d zr Q zz k n pc lv st h := by
  intro p e R s m args below meth c Z D A b H locs ls cells slots mc ms F a1 a2 hP hS hl
  exact lv_aload_n F.1.1 F.1.2.1 hdg hi (lv_at hl j (hp_lat hk)) (kk p e R s m args below meth c Z D A b H locs ls cells slots mc ms F a1 a2 hP hS hl)
theorem hp_aload {i : Nat} {x : Nat} (j : Nat) (hdg : decode cc pc = .ok (.aload i, 2)) (hk : lv[j]? = some (i, .ref x)) (kk : hp_G l (own, cc, nL, rt, ini) X d zr Q zz k n (pc + 2) lv (.ref x :: st) h) : hp_G l (own, cc, nL, rt, ini) X d zr Q zz k n pc lv st h := by
  intro p e R s m args below meth c Z D A b H locs ls cells slots mc ms F a1 a2 hP hS hl
  exact lv_aload F.1.1 F.1.2.1 hdg (lv_at hl j (hp_lat hk)) (kk p e R s m args below meth c Z D A b H locs ls cells slots mc ms F a1 a2 hP hS hl)
theorem hp_aload_nS {q : Fin 4} {i : Nat} {x : UInt32} (j : Nat) (hdg : decode cc pc = .ok (.aload_n q, 1)) (hi : (q : Nat) = i) (hk : lv[j]? = some (i, .float x)) (kk : hp_G l (own, cc, nL, rt, ini) X d zr Q zz k n (pc + 1) lv (.float x :: st) h) : hp_G l (own, cc, nL, rt, ini) X d zr Q zz k n pc lv st h := by
  intro p e R s m args below meth c Z D A b H locs ls cells slots mc ms F a1 a2 hP hS hl
  exact lv_aload_n F.1.1 F.1.2.1 hdg hi (lv_at hl j (hp_lat hk)) (kk p e R s m args below meth c Z D A b H locs ls cells slots mc ms F a1 a2 hP hS hl)
theorem hp_iconst {z : Int} {v : Int32} (hdg : decode cc pc = .ok (.iconst z, 1)) (hv : Int32.ofInt z = v) (kk : hp_G l (own, cc, nL, rt, ini) X d zr Q zz k n (pc + 1) lv (.int v :: st) h) : hp_G l (own, cc, nL, rt, ini) X d zr Q zz k n pc lv st h := by
  intro p e R s m args below meth c Z D A b H locs ls cells slots mc ms F a1 a2 hP hS hl
  exact lv_iconst F.1.1 F.1.2.1 hdg hv (kk p e R s m args below meth c Z D A b H locs ls cells slots mc ms F a1 a2 hP hS hl)
theorem hp_bipush {z : Int} {v : Int32} (hdg : decode cc pc = .ok (.bipush z, 2)) (hv : (Int8.ofInt z).toInt32 = v) (kk : hp_G l (own, cc, nL, rt, ini) X d zr Q zz k n (pc + 2) lv (.int v :: st) h) : hp_G l (own, cc, nL, rt, ini) X d zr Q zz k n pc lv st h := by
  intro p e R s m args below meth c Z D A b H locs ls cells slots mc ms F a1 a2 hP hS hl
  exact lv_bipush F.1.1 F.1.2.1 hdg hv (kk p e R s m args below meth c Z D A b H locs ls cells slots mc ms F a1 a2 hP hS hl)
theorem hp_sipush {z : Int} {v : Int32} (hdg : decode cc pc = .ok (.sipush z, 3)) (hv : (Int16.ofInt z).toInt32 = v) (kk : hp_G l (own, cc, nL, rt, ini) X d zr Q zz k n (pc + 3) lv (.int v :: st) h) : hp_G l (own, cc, nL, rt, ini) X d zr Q zz k n pc lv st h := by
  intro p e R s m args below meth c Z D A b H locs ls cells slots mc ms F a1 a2 hP hS hl
  exact lv_sipush F.1.1 F.1.2.1 hdg hv (kk p e R s m args below meth c Z D A b H locs ls cells slots mc ms F a1 a2 hP hS hl)
theorem hp_lconst {z : Fin 2} {v : Int64} (hdg : decode cc pc = .ok (.lconst z, 1)) (hv : Int64.ofNat (z : Nat) = v) (kk : hp_G l (own, cc, nL, rt, ini) X d zr Q zz k n (pc + 1) lv (.long v :: st) h) : hp_G l (own, cc, nL, rt, ini) X d zr Q zz k n pc lv st h := by
  intro p e R s m args below meth c Z D A b H locs ls cells slots mc ms F a1 a2 hP hS hl
  exact lv_lconst F.1.1 F.1.2.1 hdg hv (kk p e R s m args below meth c Z D A b H locs ls cells slots mc ms F a1 a2 hP hS hl)
theorem hp_ldcw {i : Nat} {v : Int32} (hw : Cond.constant own i v ∈ tg_) (hdg : decode cc pc = .ok (.ldc_w i, 3)) (kk : hp_G l (own, cc, nL, rt, ini) X d zr Q zz k n (pc + 3) lv (.int v :: st) h) : hp_G l (own, cc, nL, rt, ini) X d zr Q zz k n pc lv st h := by
  intro p e R s m args below meth c Z D A b H locs ls cells slots mc ms F a1 a2 hP hS hl
  exact lv_ldcw F.1.1 F.1.2.1 F.1.2.2.2.2.1 (F.1.2.2.2.2.2.2.1 _ hw) hdg (kk p e R s m args below meth c Z D A b H locs ls cells slots mc ms F a1 a2 hP hS hl)
theorem hp_ldc2 {i : Nat} {v : Int64} (hw : Cond.constantLong own i v ∈ tg_) (hdg : decode cc pc = .ok (.ldc2_w i, 3)) (kk : hp_G l (own, cc, nL, rt, ini) X d zr Q zz k n (pc + 3) lv (.long v :: st) h) : hp_G l (own, cc, nL, rt, ini) X d zr Q zz k n pc lv st h := by
  intro p e R s m args below meth c Z D A b H locs ls cells slots mc ms F a1 a2 hP hS hl
  exact lv_ldc2 F.1.1 F.1.2.1 F.1.2.2.2.2.1 (F.1.2.2.2.2.2.2.1 _ hw) hdg (kk p e R s m args below meth c Z D A b H locs ls cells slots mc ms F a1 a2 hP hS hl)
theorem hp_iadd {x y : Int32} (hdg : decode cc pc = .ok (.iadd, 1)) (kk : hp_G l (own, cc, nL, rt, ini) X d zr Q zz k n (pc + 1) lv (.int (x + y) :: st) h) : hp_G l (own, cc, nL, rt, ini) X d zr Q zz k n pc lv (.int y :: .int x :: st) h := by
  intro p e R s m args below meth c Z D A b H locs ls cells slots mc ms F a1 a2 hP hS hl
  exact lv_iadd F.1.1 F.1.2.1 hdg (kk p e R s m args below meth c Z D A b H locs ls cells slots mc ms F a1 a2 hP hS hl)
theorem hp_isub {x y : Int32} (hdg : decode cc pc = .ok (.isub, 1)) (kk : hp_G l (own, cc, nL, rt, ini) X d zr Q zz k n (pc + 1) lv (.int (x - y) :: st) h) : hp_G l (own, cc, nL, rt, ini) X d zr Q zz k n pc lv (.int y :: .int x :: st) h := by
  intro p e R s m args below meth c Z D A b H locs ls cells slots mc ms F a1 a2 hP hS hl
  exact lv_isub F.1.1 F.1.2.1 hdg (kk p e R s m args below meth c Z D A b H locs ls cells slots mc ms F a1 a2 hP hS hl)
theorem hp_imul {x y : Int32} (hdg : decode cc pc = .ok (.imul, 1)) (kk : hp_G l (own, cc, nL, rt, ini) X d zr Q zz k n (pc + 1) lv (.int (x * y) :: st) h) : hp_G l (own, cc, nL, rt, ini) X d zr Q zz k n pc lv (.int y :: .int x :: st) h := by
  intro p e R s m args below meth c Z D A b H locs ls cells slots mc ms F a1 a2 hP hS hl
  exact lv_imul F.1.1 F.1.2.1 hdg (kk p e R s m args below meth c Z D A b H locs ls cells slots mc ms F a1 a2 hP hS hl)
theorem hp_ishl {x y : Int32} (hdg : decode cc pc = .ok (.ishl, 1)) (kk : hp_G l (own, cc, nL, rt, ini) X d zr Q zz k n (pc + 1) lv (.int (x <<< (y &&& 31)) :: st) h) : hp_G l (own, cc, nL, rt, ini) X d zr Q zz k n pc lv (.int y :: .int x :: st) h := by
  intro p e R s m args below meth c Z D A b H locs ls cells slots mc ms F a1 a2 hP hS hl
  exact lv_ishl F.1.1 F.1.2.1 hdg (kk p e R s m args below meth c Z D A b H locs ls cells slots mc ms F a1 a2 hP hS hl)
theorem hp_ishr {x y : Int32} (hdg : decode cc pc = .ok (.ishr, 1)) (kk : hp_G l (own, cc, nL, rt, ini) X d zr Q zz k n (pc + 1) lv (.int (x >>> (y &&& 31)) :: st) h) : hp_G l (own, cc, nL, rt, ini) X d zr Q zz k n pc lv (.int y :: .int x :: st) h := by
  intro p e R s m args below meth c Z D A b H locs ls cells slots mc ms F a1 a2 hP hS hl
  exact lv_ishr F.1.1 F.1.2.1 hdg (kk p e R s m args below meth c Z D A b H locs ls cells slots mc ms F a1 a2 hP hS hl)
theorem hp_iand {x y : Int32} (hdg : decode cc pc = .ok (.iand, 1)) (kk : hp_G l (own, cc, nL, rt, ini) X d zr Q zz k n (pc + 1) lv (.int (x &&& y) :: st) h) : hp_G l (own, cc, nL, rt, ini) X d zr Q zz k n pc lv (.int y :: .int x :: st) h := by
  intro p e R s m args below meth c Z D A b H locs ls cells slots mc ms F a1 a2 hP hS hl
  exact lv_iand F.1.1 F.1.2.1 hdg (kk p e R s m args below meth c Z D A b H locs ls cells slots mc ms F a1 a2 hP hS hl)
theorem hp_ior {x y : Int32} (hdg : decode cc pc = .ok (.ior, 1)) (kk : hp_G l (own, cc, nL, rt, ini) X d zr Q zz k n (pc + 1) lv (.int (x ||| y) :: st) h) : hp_G l (own, cc, nL, rt, ini) X d zr Q zz k n pc lv (.int y :: .int x :: st) h := by
  intro p e R s m args below meth c Z D A b H locs ls cells slots mc ms F a1 a2 hP hS hl
  exact lv_ior F.1.1 F.1.2.1 hdg (kk p e R s m args below meth c Z D A b H locs ls cells slots mc ms F a1 a2 hP hS hl)
theorem hp_ixor {x y : Int32} (hdg : decode cc pc = .ok (.ixor, 1)) (kk : hp_G l (own, cc, nL, rt, ini) X d zr Q zz k n (pc + 1) lv (.int (x ^^^ y) :: st) h) : hp_G l (own, cc, nL, rt, ini) X d zr Q zz k n pc lv (.int y :: .int x :: st) h := by
  intro p e R s m args below meth c Z D A b H locs ls cells slots mc ms F a1 a2 hP hS hl
  exact lv_ixor F.1.1 F.1.2.1 hdg (kk p e R s m args below meth c Z D A b H locs ls cells slots mc ms F a1 a2 hP hS hl)
theorem hp_iushr {x y : Int32} (hdg : decode cc pc = .ok (.iushr, 1)) (kk : hp_G l (own, cc, nL, rt, ini) X d zr Q zz k n (pc + 1) lv (.int ((x.toUInt32 >>> (y.toUInt32 &&& Int32.toUInt32 31)).toInt32) :: st) h) : hp_G l (own, cc, nL, rt, ini) X d zr Q zz k n pc lv (.int y :: .int x :: st) h := by
  intro p e R s m args below meth c Z D A b H locs ls cells slots mc ms F a1 a2 hP hS hl
  exact lv_iushr F.1.1 F.1.2.1 hdg rfl (kk p e R s m args below meth c Z D A b H locs ls cells slots mc ms F a1 a2 hP hS hl)
def dv_ (x y : Int32) : Option Int32 := if y = 0 then none else some (x / y)
def rm_ (x y : Int32) : Option Int32 := if y = 0 then none else some (x - x / y * y)
def dvl_ (x y : Int64) : Option Int64 := if y = 0 then none else some (x / y)
def rml_ (x y : Int64) : Option Int64 := if y = 0 then none else some (x - x / y * y)
theorem hp_idiv {x y z : Int32} (hdg : decode cc pc = .ok (.idiv, 1)) (hz : dv_ x y = some z) (kk : hp_G l (own, cc, nL, rt, ini) X d zr Q zz k n (pc + 1) lv (.int z :: st) h) : hp_G l (own, cc, nL, rt, ini) X d zr Q zz k n pc lv (.int y :: .int x :: st) h := by
  intro p e R s m args below meth c Z D A b H locs ls cells slots mc ms F a1 a2 hP hS hl
  by_cases hy : y = 0
  · rw [dv_, if_pos hy] at hz; cases hz
  · rw [dv_, if_neg hy] at hz
    have e := Option.some.inj hz
    subst e
    exact lv_idiv F.1.1 F.1.2.1 hdg hy (kk p e R s m args below meth c Z D A b H locs ls cells slots mc ms F a1 a2 hP hS hl)
theorem hp_irem {x y z : Int32} (hdg : decode cc pc = .ok (.irem, 1)) (hz : rm_ x y = some z) (kk : hp_G l (own, cc, nL, rt, ini) X d zr Q zz k n (pc + 1) lv (.int z :: st) h) : hp_G l (own, cc, nL, rt, ini) X d zr Q zz k n pc lv (.int y :: .int x :: st) h := by
  intro p e R s m args below meth c Z D A b H locs ls cells slots mc ms F a1 a2 hP hS hl
  by_cases hy : y = 0
  · rw [rm_, if_pos hy] at hz; cases hz
  · rw [rm_, if_neg hy] at hz
    have e := Option.some.inj hz
    subst e
    exact lv_irem F.1.1 F.1.2.1 hdg hy (kk p e R s m args below meth c Z D A b H locs ls cells slots mc ms F a1 a2 hP hS hl)
theorem hp_ldiv {x y z : Int64} (hdg : decode cc pc = .ok (.ldiv, 1)) (hz : dvl_ x y = some z) (kk : hp_G l (own, cc, nL, rt, ini) X d zr Q zz k n (pc + 1) lv (.long z :: st) h) : hp_G l (own, cc, nL, rt, ini) X d zr Q zz k n pc lv (.long y :: .long x :: st) h := by
  intro p e R s m args below meth c Z D A b H locs ls cells slots mc ms F a1 a2 hP hS hl
  by_cases hy : y = 0
  · rw [dvl_, if_pos hy] at hz; cases hz
  · rw [dvl_, if_neg hy] at hz
    have e := Option.some.inj hz
    subst e
    exact lv_ldiv F.1.1 F.1.2.1 hdg hy (kk p e R s m args below meth c Z D A b H locs ls cells slots mc ms F a1 a2 hP hS hl)
theorem hp_lrem {x y z : Int64} (hdg : decode cc pc = .ok (.lrem, 1)) (hz : rml_ x y = some z) (kk : hp_G l (own, cc, nL, rt, ini) X d zr Q zz k n (pc + 1) lv (.long z :: st) h) : hp_G l (own, cc, nL, rt, ini) X d zr Q zz k n pc lv (.long y :: .long x :: st) h := by
  intro p e R s m args below meth c Z D A b H locs ls cells slots mc ms F a1 a2 hP hS hl
  by_cases hy : y = 0
  · rw [rml_, if_pos hy] at hz; cases hz
  · rw [rml_, if_neg hy] at hz
    have e := Option.some.inj hz
    subst e
    exact lv_lrem F.1.1 F.1.2.1 hdg hy (kk p e R s m args below meth c Z D A b H locs ls cells slots mc ms F a1 a2 hP hS hl)
theorem hp_i2l {x : Int32} (hdg : decode cc pc = .ok (.i2l, 1)) (kk : hp_G l (own, cc, nL, rt, ini) X d zr Q zz k n (pc + 1) lv (.long x.toInt64 :: st) h) : hp_G l (own, cc, nL, rt, ini) X d zr Q zz k n pc lv (.int x :: st) h := by
  intro p e R s m args below meth c Z D A b H locs ls cells slots mc ms F a1 a2 hP hS hl
  exact lv_i2l F.1.1 F.1.2.1 hdg rfl (kk p e R s m args below meth c Z D A b H locs ls cells slots mc ms F a1 a2 hP hS hl)
theorem hp_i2b {x : Int32} (hdg : decode cc pc = .ok (.i2b, 1)) (kk : hp_G l (own, cc, nL, rt, ini) X d zr Q zz k n (pc + 1) lv (.int x.toInt8.toInt32 :: st) h) : hp_G l (own, cc, nL, rt, ini) X d zr Q zz k n pc lv (.int x :: st) h := by
  intro p e R s m args below meth c Z D A b H locs ls cells slots mc ms F a1 a2 hP hS hl
  exact lv_i2b F.1.1 F.1.2.1 hdg rfl (kk p e R s m args below meth c Z D A b H locs ls cells slots mc ms F a1 a2 hP hS hl)
theorem hp_i2s {x : Int32} (hdg : decode cc pc = .ok (.i2s, 1)) (kk : hp_G l (own, cc, nL, rt, ini) X d zr Q zz k n (pc + 1) lv (.int x.toInt16.toInt32 :: st) h) : hp_G l (own, cc, nL, rt, ini) X d zr Q zz k n pc lv (.int x :: st) h := by
  intro p e R s m args below meth c Z D A b H locs ls cells slots mc ms F a1 a2 hP hS hl
  exact lv_i2s F.1.1 F.1.2.1 hdg rfl (kk p e R s m args below meth c Z D A b H locs ls cells slots mc ms F a1 a2 hP hS hl)
theorem hp_lcmp {x y : Int64} (hdg : decode cc pc = .ok (.lcmp, 1)) (kk : hp_G l (own, cc, nL, rt, ini) X d zr Q zz k n (pc + 1) lv (.int (lg_cmp x y) :: st) h) : hp_G l (own, cc, nL, rt, ini) X d zr Q zz k n pc lv (.long y :: .long x :: st) h := by
  intro p e R s m args below meth c Z D A b H locs ls cells slots mc ms F a1 a2 hP hS hl
  exact W.lcmp F.1.1 F.1.2.1 hdg (kk p e R s m args below meth c Z D A b H locs ls cells slots mc ms F a1 a2 hP hS hl)
theorem hp_dup {v : Value} (hdg : decode cc pc = .ok (.dup, 1)) (hc : v.category = 1) (kk : hp_G l (own, cc, nL, rt, ini) X d zr Q zz k n (pc + 1) lv (v :: v :: st) h) : hp_G l (own, cc, nL, rt, ini) X d zr Q zz k n pc lv (v :: st) h := by
  intro p e R s m args below meth c Z D A b H locs ls cells slots mc ms F a1 a2 hP hS hl
  exact lv_dup F.1.1 F.1.2.1 hdg ((hp_vcat b v).trans hc) (kk p e R s m args below meth c Z D A b H locs ls cells slots mc ms F a1 a2 hP hS hl)
theorem hp_dup2 {v u : Value} (hdg : decode cc pc = .ok (.dup2, 1)) (hc : v.category = 1) (hc2 : u.category = 1) (kk : hp_G l (own, cc, nL, rt, ini) X d zr Q zz k n (pc + 1) lv (v :: u :: v :: u :: st) h) : hp_G l (own, cc, nL, rt, ini) X d zr Q zz k n pc lv (v :: u :: st) h := by
  intro p e R s m args below meth c Z D A b H locs ls cells slots mc ms F a1 a2 hP hS hl
  exact lv_dup2_11 F.1.1 F.1.2.1 hdg ((hp_vcat b v).trans hc) ((hp_vcat b u).trans hc2) (kk p e R s m args below meth c Z D A b H locs ls cells slots mc ms F a1 a2 hP hS hl)
theorem hp_dup_x1 {v u : Value} (hdg : decode cc pc = .ok (.dup_x1, 1)) (hc : v.category = 1) (hc2 : u.category = 1) (kk : hp_G l (own, cc, nL, rt, ini) X d zr Q zz k n (pc + 1) lv (v :: u :: v :: st) h) : hp_G l (own, cc, nL, rt, ini) X d zr Q zz k n pc lv (v :: u :: st) h := by
  intro p e R s m args below meth c Z D A b H locs ls cells slots mc ms F a1 a2 hP hS hl
  exact lv_dup_x1 F.1.1 F.1.2.1 hdg ((hp_vcat b v).trans hc) ((hp_vcat b u).trans hc2) (kk p e R s m args below meth c Z D A b H locs ls cells slots mc ms F a1 a2 hP hS hl)
theorem hp_goto {off : Int} {tgt : Nat} (hdg : decode cc pc = .ok (.goto off, 3)) (ht : (pc : Int) + off = (tgt : Int)) (kk : hp_G l (own, cc, nL, rt, ini) X d zr Q zz k n tgt lv st h) : hp_G l (own, cc, nL, rt, ini) X d zr Q zz k n pc lv st h := by
  intro p e R s m args below meth c Z D A b H locs ls cells slots mc ms F a1 a2 hP hS hl
  exact lv_goto F.1.1 F.1.2.1 hdg ht (kk p e R s m args below meth c Z D A b H locs ls cells slots mc ms F a1 a2 hP hS hl)
theorem hp_icmp_eq {x y : Int32} {off : Int} {tgt : Nat} (hdg : decode cc pc = .ok (.if_icmp .eq off, 3)) (ht : (pc : Int) + off = (tgt : Int)) (kt : x = y → hp_G l (own, cc, nL, rt, ini) X d zr Q zz k n tgt lv st h) (kf : ¬ x = y → hp_G l (own, cc, nL, rt, ini) X d zr Q zz k n (pc + 3) lv st h) : hp_G l (own, cc, nL, rt, ini) X d zr Q zz k n pc lv (.int y :: .int x :: st) h := by
  intro p e R s m args below meth c Z D A b H locs ls cells slots mc ms F a1 a2 hP hS hl
  exact lv_icmp_eq F.1.1 F.1.2.1 hdg ht (fun z => (kt z p e R s m args below meth c Z D A b H locs ls cells slots mc ms F a1 a2 hP hS hl)) (fun z => (kf z p e R s m args below meth c Z D A b H locs ls cells slots mc ms F a1 a2 hP hS hl))
theorem hp_if_eq {x : Int32} {off : Int} {tgt : Nat} (hdg : decode cc pc = .ok (.ifCond .eq off, 3)) (ht : (pc : Int) + off = (tgt : Int)) (kt : x = 0 → hp_G l (own, cc, nL, rt, ini) X d zr Q zz k n tgt lv st h) (kf : ¬ x = 0 → hp_G l (own, cc, nL, rt, ini) X d zr Q zz k n (pc + 3) lv st h) : hp_G l (own, cc, nL, rt, ini) X d zr Q zz k n pc lv (.int x :: st) h := by
  intro p e R s m args below meth c Z D A b H locs ls cells slots mc ms F a1 a2 hP hS hl
  exact lv_if_eq F.1.1 F.1.2.1 hdg ht (fun z => (kt z p e R s m args below meth c Z D A b H locs ls cells slots mc ms F a1 a2 hP hS hl)) (fun z => (kf z p e R s m args below meth c Z D A b H locs ls cells slots mc ms F a1 a2 hP hS hl))
theorem hp_icmp_ne {x y : Int32} {off : Int} {tgt : Nat} (hdg : decode cc pc = .ok (.if_icmp .ne off, 3)) (ht : (pc : Int) + off = (tgt : Int)) (kt : ¬ x = y → hp_G l (own, cc, nL, rt, ini) X d zr Q zz k n tgt lv st h) (kf : x = y → hp_G l (own, cc, nL, rt, ini) X d zr Q zz k n (pc + 3) lv st h) : hp_G l (own, cc, nL, rt, ini) X d zr Q zz k n pc lv (.int y :: .int x :: st) h := by
  intro p e R s m args below meth c Z D A b H locs ls cells slots mc ms F a1 a2 hP hS hl
  exact lv_icmp_ne F.1.1 F.1.2.1 hdg ht (fun z => (kt z p e R s m args below meth c Z D A b H locs ls cells slots mc ms F a1 a2 hP hS hl)) (fun z => (kf z p e R s m args below meth c Z D A b H locs ls cells slots mc ms F a1 a2 hP hS hl))
theorem hp_if_ne {x : Int32} {off : Int} {tgt : Nat} (hdg : decode cc pc = .ok (.ifCond .ne off, 3)) (ht : (pc : Int) + off = (tgt : Int)) (kt : ¬ x = 0 → hp_G l (own, cc, nL, rt, ini) X d zr Q zz k n tgt lv st h) (kf : x = 0 → hp_G l (own, cc, nL, rt, ini) X d zr Q zz k n (pc + 3) lv st h) : hp_G l (own, cc, nL, rt, ini) X d zr Q zz k n pc lv (.int x :: st) h := by
  intro p e R s m args below meth c Z D A b H locs ls cells slots mc ms F a1 a2 hP hS hl
  exact lv_if_ne F.1.1 F.1.2.1 hdg ht (fun z => (kt z p e R s m args below meth c Z D A b H locs ls cells slots mc ms F a1 a2 hP hS hl)) (fun z => (kf z p e R s m args below meth c Z D A b H locs ls cells slots mc ms F a1 a2 hP hS hl))
theorem hp_icmp_lt {x y : Int32} {off : Int} {tgt : Nat} (hdg : decode cc pc = .ok (.if_icmp .lt off, 3)) (ht : (pc : Int) + off = (tgt : Int)) (kt : x < y → hp_G l (own, cc, nL, rt, ini) X d zr Q zz k n tgt lv st h) (kf : ¬ x < y → hp_G l (own, cc, nL, rt, ini) X d zr Q zz k n (pc + 3) lv st h) : hp_G l (own, cc, nL, rt, ini) X d zr Q zz k n pc lv (.int y :: .int x :: st) h := by
  intro p e R s m args below meth c Z D A b H locs ls cells slots mc ms F a1 a2 hP hS hl
  exact lv_icmp_lt F.1.1 F.1.2.1 hdg ht (fun z => (kt z p e R s m args below meth c Z D A b H locs ls cells slots mc ms F a1 a2 hP hS hl)) (fun z => (kf z p e R s m args below meth c Z D A b H locs ls cells slots mc ms F a1 a2 hP hS hl))
theorem hp_if_lt {x : Int32} {off : Int} {tgt : Nat} (hdg : decode cc pc = .ok (.ifCond .lt off, 3)) (ht : (pc : Int) + off = (tgt : Int)) (kt : x < 0 → hp_G l (own, cc, nL, rt, ini) X d zr Q zz k n tgt lv st h) (kf : ¬ x < 0 → hp_G l (own, cc, nL, rt, ini) X d zr Q zz k n (pc + 3) lv st h) : hp_G l (own, cc, nL, rt, ini) X d zr Q zz k n pc lv (.int x :: st) h := by
  intro p e R s m args below meth c Z D A b H locs ls cells slots mc ms F a1 a2 hP hS hl
  exact lv_if_lt F.1.1 F.1.2.1 hdg ht (fun z => (kt z p e R s m args below meth c Z D A b H locs ls cells slots mc ms F a1 a2 hP hS hl)) (fun z => (kf z p e R s m args below meth c Z D A b H locs ls cells slots mc ms F a1 a2 hP hS hl))
theorem hp_icmp_ge {x y : Int32} {off : Int} {tgt : Nat} (hdg : decode cc pc = .ok (.if_icmp .ge off, 3)) (ht : (pc : Int) + off = (tgt : Int)) (kt : y ≤ x → hp_G l (own, cc, nL, rt, ini) X d zr Q zz k n tgt lv st h) (kf : ¬ y ≤ x → hp_G l (own, cc, nL, rt, ini) X d zr Q zz k n (pc + 3) lv st h) : hp_G l (own, cc, nL, rt, ini) X d zr Q zz k n pc lv (.int y :: .int x :: st) h := by
  intro p e R s m args below meth c Z D A b H locs ls cells slots mc ms F a1 a2 hP hS hl
  exact lv_icmp_ge F.1.1 F.1.2.1 hdg ht (fun z => (kt z p e R s m args below meth c Z D A b H locs ls cells slots mc ms F a1 a2 hP hS hl)) (fun z => (kf z p e R s m args below meth c Z D A b H locs ls cells slots mc ms F a1 a2 hP hS hl))
theorem hp_if_ge {x : Int32} {off : Int} {tgt : Nat} (hdg : decode cc pc = .ok (.ifCond .ge off, 3)) (ht : (pc : Int) + off = (tgt : Int)) (kt : 0 ≤ x → hp_G l (own, cc, nL, rt, ini) X d zr Q zz k n tgt lv st h) (kf : ¬ 0 ≤ x → hp_G l (own, cc, nL, rt, ini) X d zr Q zz k n (pc + 3) lv st h) : hp_G l (own, cc, nL, rt, ini) X d zr Q zz k n pc lv (.int x :: st) h := by
  intro p e R s m args below meth c Z D A b H locs ls cells slots mc ms F a1 a2 hP hS hl
  exact lv_if_ge F.1.1 F.1.2.1 hdg ht (fun z => (kt z p e R s m args below meth c Z D A b H locs ls cells slots mc ms F a1 a2 hP hS hl)) (fun z => (kf z p e R s m args below meth c Z D A b H locs ls cells slots mc ms F a1 a2 hP hS hl))
theorem hp_icmp_gt {x y : Int32} {off : Int} {tgt : Nat} (hdg : decode cc pc = .ok (.if_icmp .gt off, 3)) (ht : (pc : Int) + off = (tgt : Int)) (kt : y < x → hp_G l (own, cc, nL, rt, ini) X d zr Q zz k n tgt lv st h) (kf : ¬ y < x → hp_G l (own, cc, nL, rt, ini) X d zr Q zz k n (pc + 3) lv st h) : hp_G l (own, cc, nL, rt, ini) X d zr Q zz k n pc lv (.int y :: .int x :: st) h := by
  intro p e R s m args below meth c Z D A b H locs ls cells slots mc ms F a1 a2 hP hS hl
  exact lv_icmp_gt F.1.1 F.1.2.1 hdg ht (fun z => (kt z p e R s m args below meth c Z D A b H locs ls cells slots mc ms F a1 a2 hP hS hl)) (fun z => (kf z p e R s m args below meth c Z D A b H locs ls cells slots mc ms F a1 a2 hP hS hl))
theorem hp_if_gt {x : Int32} {off : Int} {tgt : Nat} (hdg : decode cc pc = .ok (.ifCond .gt off, 3)) (ht : (pc : Int) + off = (tgt : Int)) (kt : 0 < x → hp_G l (own, cc, nL, rt, ini) X d zr Q zz k n tgt lv st h) (kf : ¬ 0 < x → hp_G l (own, cc, nL, rt, ini) X d zr Q zz k n (pc + 3) lv st h) : hp_G l (own, cc, nL, rt, ini) X d zr Q zz k n pc lv (.int x :: st) h := by
  intro p e R s m args below meth c Z D A b H locs ls cells slots mc ms F a1 a2 hP hS hl
  exact lv_if_gt F.1.1 F.1.2.1 hdg ht (fun z => (kt z p e R s m args below meth c Z D A b H locs ls cells slots mc ms F a1 a2 hP hS hl)) (fun z => (kf z p e R s m args below meth c Z D A b H locs ls cells slots mc ms F a1 a2 hP hS hl))
theorem hp_icmp_le {x y : Int32} {off : Int} {tgt : Nat} (hdg : decode cc pc = .ok (.if_icmp .le off, 3)) (ht : (pc : Int) + off = (tgt : Int)) (kt : x ≤ y → hp_G l (own, cc, nL, rt, ini) X d zr Q zz k n tgt lv st h) (kf : ¬ x ≤ y → hp_G l (own, cc, nL, rt, ini) X d zr Q zz k n (pc + 3) lv st h) : hp_G l (own, cc, nL, rt, ini) X d zr Q zz k n pc lv (.int y :: .int x :: st) h := by
  intro p e R s m args below meth c Z D A b H locs ls cells slots mc ms F a1 a2 hP hS hl
  exact lv_icmp_le F.1.1 F.1.2.1 hdg ht (fun z => (kt z p e R s m args below meth c Z D A b H locs ls cells slots mc ms F a1 a2 hP hS hl)) (fun z => (kf z p e R s m args below meth c Z D A b H locs ls cells slots mc ms F a1 a2 hP hS hl))
theorem hp_if_le {x : Int32} {off : Int} {tgt : Nat} (hdg : decode cc pc = .ok (.ifCond .le off, 3)) (ht : (pc : Int) + off = (tgt : Int)) (kt : x ≤ 0 → hp_G l (own, cc, nL, rt, ini) X d zr Q zz k n tgt lv st h) (kf : ¬ x ≤ 0 → hp_G l (own, cc, nL, rt, ini) X d zr Q zz k n (pc + 3) lv st h) : hp_G l (own, cc, nL, rt, ini) X d zr Q zz k n pc lv (.int x :: st) h := by
  intro p e R s m args below meth c Z D A b H locs ls cells slots mc ms F a1 a2 hP hS hl
  exact lv_if_le F.1.1 F.1.2.1 hdg ht (fun z => (kt z p e R s m args below meth c Z D A b H locs ls cells slots mc ms F a1 a2 hP hS hl)) (fun z => (kf z p e R s m args below meth c Z D A b H locs ls cells slots mc ms F a1 a2 hP hS hl))
theorem hp_istore_n {q : Fin 4} {i : Nat} {x : Int32} {lv' : List (Nat × Value)} (hdg : decode cc pc = .ok (.istore_n q, 1)) (hi : (q : Nat) = i) (hn : i < nL) (hl' : hp_st1 lv i (.int x) = lv') (kk : hp_G l (own, cc, nL, rt, ini) X d zr Q zz k n (pc + 1) lv' st h) : hp_G l (own, cc, nL, rt, ini) X d zr Q zz k n pc lv (.int x :: st) h := by
  intro p e R s m args below meth c Z D A b H locs ls cells slots mc ms F a1 a2 hP hS hl
  exact lv_istore_n F.1.1 F.1.2.1 hdg hi hl hn (hp_lst1 (b := b) hl') (fun ls hl => (kk p e R s m args below meth c Z D A b H locs ls cells slots mc ms F a1 a2 hP hS hl))
theorem hp_istore {i : Nat} {x : Int32} {lv' : List (Nat × Value)} (hdg : decode cc pc = .ok (.istore i, 2)) (hn : i < nL) (hl' : hp_st1 lv i (.int x) = lv') (kk : hp_G l (own, cc, nL, rt, ini) X d zr Q zz k n (pc + 2) lv' st h) : hp_G l (own, cc, nL, rt, ini) X d zr Q zz k n pc lv (.int x :: st) h := by
  intro p e R s m args below meth c Z D A b H locs ls cells slots mc ms F a1 a2 hP hS hl
  exact lv_istore F.1.1 F.1.2.1 hdg hl hn (hp_lst1 (b := b) hl') (fun ls hl => (kk p e R s m args below meth c Z D A b H locs ls cells slots mc ms F a1 a2 hP hS hl))
theorem hp_astore_n {q : Fin 4} {i : Nat} {x : Nat} {lv' : List (Nat × Value)} (hdg : decode cc pc = .ok (.astore_n q, 1)) (hi : (q : Nat) = i) (hn : i < nL) (hl' : hp_st1 lv i (.ref x) = lv') (kk : hp_G l (own, cc, nL, rt, ini) X d zr Q zz k n (pc + 1) lv' st h) : hp_G l (own, cc, nL, rt, ini) X d zr Q zz k n pc lv (.ref x :: st) h := by
  intro p e R s m args below meth c Z D A b H locs ls cells slots mc ms F a1 a2 hP hS hl
  exact lv_astore_n F.1.1 F.1.2.1 hdg hi hl hn (hp_lst1 (b := b) hl') (fun ls hl => (kk p e R s m args below meth c Z D A b H locs ls cells slots mc ms F a1 a2 hP hS hl))
theorem hp_astore {i : Nat} {x : Nat} {lv' : List (Nat × Value)} (hdg : decode cc pc = .ok (.astore i, 2)) (hn : i < nL) (hl' : hp_st1 lv i (.ref x) = lv') (kk : hp_G l (own, cc, nL, rt, ini) X d zr Q zz k n (pc + 2) lv' st h) : hp_G l (own, cc, nL, rt, ini) X d zr Q zz k n pc lv (.ref x :: st) h := by
  intro p e R s m args below meth c Z D A b H locs ls cells slots mc ms F a1 a2 hP hS hl
  exact lv_astore F.1.1 F.1.2.1 hdg hl hn (hp_lst1 (b := b) hl') (fun ls hl => (kk p e R s m args below meth c Z D A b H locs ls cells slots mc ms F a1 a2 hP hS hl))
theorem hp_lstore {i : Nat} {x : Int64} {lv' : List (Nat × Value)} (hdg : decode cc pc = .ok (.lstore i, 2)) (hn : i + 1 < nL) (hl' : hp_st2 lv i (.long x) = lv') (kk : hp_G l (own, cc, nL, rt, ini) X d zr Q zz k n (pc + 2) lv' st h) : hp_G l (own, cc, nL, rt, ini) X d zr Q zz k n pc lv (.long x :: st) h := by
  intro p e R s m args below meth c Z D A b H locs ls cells slots mc ms F a1 a2 hP hS hl
  exact lv_lstore F.1.1 F.1.2.1 hdg hl hn (hp_lst2 (b := b) hl') (fun ls hl => (kk p e R s m args below meth c Z D A b H locs ls cells slots mc ms F a1 a2 hP hS hl))
theorem hp_iinc {i : Nat} {z : Int} {x v : Int32} {lv' : List (Nat × Value)} (j : Nat) (hdg : decode cc pc = .ok (.iinc i z, 3)) (hk : lv[j]? = some (i, .int x)) (hv : x + Int32.ofInt z = v) (hn : i < nL) (hl' : hp_st1 lv i (.int v) = lv') (kk : hp_G l (own, cc, nL, rt, ini) X d zr Q zz k n (pc + 3) lv' st h) : hp_G l (own, cc, nL, rt, ini) X d zr Q zz k n pc lv st h := by
  intro p e R s m args below meth c Z D A b H locs ls cells slots mc ms F a1 a2 hP hS hl
  exact lv_iinc (v := v) F.1.1 F.1.2.1 hdg hl (k := j) (hp_lat hk) hv hn (hp_lst1 (b := b) hl') (fun ls hl => (kk p e R s m args below meth c Z D A b H locs ls cells slots mc ms F a1 a2 hP hS hl))
theorem hp_sub {lv' : List (Nat × Value)} (ks : List Nat) (hs : lv_pick lv ks = lv') (kk : hp_G l (own, cc, nL, rt, ini) X d zr Q zz k n pc lv' st h) : hp_G l (own, cc, nL, rt, ini) X d zr Q zz k n pc lv st h := by
  intro p e R s m args below meth c Z D A b H locs ls cells slots mc ms F a1 a2 hP hS hl
  refine kk p e R s m args below meth c Z D A b H locs ls cells slots mc ms F a1 a2 hP hS (lv_sub hl ks ?_)
  subst hs
  simp only [lv_pick, hp_l, List.map_filterMap, List.getElem?_map]
theorem hp_nz (kk : hp_G l (own, cc, nL, rt, ini) X d zr Q false k n pc lv st h) : hp_G l (own, cc, nL, rt, ini) X d zr Q zz k n pc lv st h := by
  intro p e R s m args below meth c Z D A b H locs ls cells slots mc ms F a1 a2 hP hS hl
  exact kk p e R s m args below meth c Z D A b H locs ls cells slots mc ms F a1 a2 ⟨fun h => (by cases h), hP.2⟩ hS hl
theorem hp_ret {v : Option Value} (hq : Q v h) (hz : zr = true → zz = true) (hdc : hp_dec (own, cc, nL, rt, ini) pc v) : hp_G l (own, cc, nL, rt, ini) X d zr Q zz k n pc lv v.toList h := by
  intro p e R s m args below meth c Z D A b H locs ls cells slots mc ms F a1 a2 hP hS hl
  exact F.2.2.2.2.2 v h H locs cells slots pc ls hq ⟨fun z => hP.1 (hz z), hP.2⟩ hS (by omega) (by omega) hdc
theorem hp_iret {x : Int32} (hq : Q (some (.int x)) h) (hz : zr = true → zz = true) (hr : rt = some .int) (hdg : decode cc pc = .ok (.ireturn, 1)) : hp_G l (own, cc, nL, rt, ini) X d zr Q zz k n pc lv [.int x] h := hp_ret (v := some (.int x)) hq hz ⟨hdg, .int, hr, rfl⟩
theorem hp_zret {x : Int32} (hq : Q (some (.int x)) h) (hz : zr = true → zz = true) (hr : rt = some .boolean) (hb : x = 0 ∨ x = 1) (hdg : decode cc pc = .ok (.ireturn, 1)) : hp_G l (own, cc, nL, rt, ini) X d zr Q zz k n pc lv [.int x] h := hp_ret (v := some (.int x)) hq hz ⟨hdg, .boolean, hr, by rcases hb with rfl | rfl <;> decide⟩
theorem hp_lret {x : Int64} (hq : Q (some (.long x)) h) (hz : zr = true → zz = true) (hr : rt = some .long) (hdg : decode cc pc = .ok (.lreturn, 1)) : hp_G l (own, cc, nL, rt, ini) X d zr Q zz k n pc lv [.long x] h := hp_ret (v := some (.long x)) hq hz ⟨hdg, hr⟩
theorem hp_vret (hq : Q none h) (hz : zr = true → zz = true) (hr : rt = none) (hdg : decode cc pc = .ok (.return_, 1)) : hp_G l (own, cc, nL, rt, ini) X d zr Q zz k n pc lv [] h := hp_ret (v := none) hq hz ⟨hdg, hr⟩
end HPR
