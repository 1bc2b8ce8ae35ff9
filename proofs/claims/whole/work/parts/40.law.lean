/-! THE CLAIM OUT OF ONE WALK OF THE LAW'S BODY. Your part is whole_start (and what it stands on); all else here is the same for every law, but numbers. -/
def R_law : String := "WinnersLeaveLaw"
def lw_P (b : Addr) (xs : List Int32) (args : Array Value) (s : State) : Prop := args = #[.ref b] ∧ s.IntsAt b xs ∧ xs.length ≤ 3072 ∧ (Jvm.Cond.and given_1 narrow_1).before args s = true
def lw_Q (_ : Array Value) (s : State) (o : Outcome) (t : State) : Prop := o = .returned (some (.int 1)) ∧ Framed s o t [] 600000 7302250
def lw_Z (below : List Frame) (a : Array Value) (s : State) : State → Prop := fun t => ∃ o, t.status = .running ∧ Ended t below o ∧ lw_Q a s o t
/-- the law's own end, with 1 on the stack, nothing written that was there before, its room as the claim has it -/
theorem lw_ret {p : Program} {l : Launch} {e : Env} {s : State} {m : MethodId} {below : List Frame} {meth : Method} {c : Code} {b : Nat} (hx : p.tables.exec = Jvm.exec) (hb : c.code = code) (hr : meth.sig.returnType = ret) (hlocks : meth.locks = false) {pc : Nat} {H : Heap} {ls : Array Slot} (hdg : decode code pc = .ok (.ireturn, 1)) : W p l e room_1 s m #[Value.ref b] below meth c H [] 600000 7302250 (lw_Z below #[Value.ref b] s) (F0 m pc ls [.int 1]) := by
  intro T hT X
  obtain ⟨fs, hret, hrun, hended, hW, hframe⟩ := X.leave (v := some (.int 1)) (hlocks := hlocks) (fun h => by rw [hr] at h; cases h)
  have hmeth' : T.vm.method? m = some meth := X.method'
  refine ⟨T.setFrames fs, ?_, .returned (some (.int 1)), hrun, hended, rfl, ⟨_, rfl⟩, hW, hframe⟩
  jvm_step X.here [X.here.top, hx, hb, hdg, hmeth', hr, ret, narrow_b1]
  (try refine ⟨rfl, ?_⟩); (try refine ⟨rfl, ?_⟩)
  first | (intro acts; rw [hret _ acts rfl rfl rfl]) | rw [hret _ _ rfl rfl rfl]
  exact Steps.refl _
/-- what holds at the law's entry: the machine, the code, the tables' words (any of lw_tbl by 'hts w (by decide +kernel)'), the script of L ints xs at the cell b, what the Statement gives of the start (any of its parts by flat_of_before) -/
def lw_At (p : Program) (s : State) (m : MethodId) (meth : Method) (c : Code) (b L : Nat) (xs : Nat → Int32) : Prop :=
  p.tables.exec = Jvm.exec ∧ c.code = code ∧ meth.sig.returnType = ret ∧ c.maxLocals = 4 ∧ s.vm.findClass R_law = some m.cls ∧ (∀ w ∈ lw_tbl, w.before #[Value.ref b] s = true) ∧ va_X b L xs s s.heap ∧ b < s.heap.size ∧ meth.locks = false ∧ (Jvm.Cond.and given_1 narrow_1).before #[Value.ref b] s = true
set_option maxHeartbeats 4000000 in
set_option maxRecDepth 100000 in
/-- the law's walk out of its pure function's answer -/
theorem whole_start_of {p : Program} {e : Env} {s : State} {m : MethodId} {below : List Frame} {meth : Method} {c : Code} (l : Launch) {b L : Nat} {xs : Nat → Int32} (hpure : ∃ g, fL_law L xs [] = some (1, g)) (C0 : lw_At p s m meth c b L xs) : W p l e room_1 s m #[Value.ref b] below meth c s.heap [] 0 0 (lw_Z below #[Value.ref b] s) (entryFrame m ([Value.ref b] : List Value).toArray 4) := by
  obtain ⟨g, hg⟩ := hpure
  obtain ⟨hx, hb, hr, hml, hown, hts, hX, hbl, hlocks, hgv⟩ := C0
  obtain ⟨c0, i0, hK0⟩ := u_known (C := RX0) (T := TX0) (N := 5) (n := 5) hts (fun w hw => (List.mem_filter.mp (tinX0 w hw)).1) (hts (.instantiable RX0 5) (List.mem_filter.mp wd_151).1)
  obtain ⟨c1, i1, hK1⟩ := u_known (C := RX1) (T := TX1) (N := 3) (n := 3) hts (fun w hw => (List.mem_filter.mp (tinX1 w hw)).1) (hts (.instantiable RX1 3) (List.mem_filter.mp wd_199).1)
  obtain ⟨c2, i2, hK2⟩ := u_known (C := RX2) (T := TX2) (N := 4) (n := 4) hts (fun w hw => (List.mem_filter.mp (tinX2 w hw)).1) (hts (.instantiable RX2 4) (List.mem_filter.mp wd_103).1)
  obtain ⟨c3, i3, hK3⟩ := u_known (C := RX3) (T := TX3) (N := 4) (n := 4) hts (fun w hw => (List.mem_filter.mp (tinX3 w hw)).1) (hts (.instantiable RX3 4) (List.mem_filter.mp wd_216).1)
  obtain ⟨c4, i4, hK4⟩ := u_known (C := RX4) (T := TX4) (N := 5) (n := 5) hts (fun w hw => (List.mem_filter.mp (tinX4 w hw)).1) (hts (.instantiable RX4 5) (List.mem_filter.mp wd_175).1)
  obtain ⟨c5, i5, hK5⟩ := u_known (C := RX5) (T := TX5) (N := 4) (n := 4) hts (fun w hw => (List.mem_filter.mp (tinX5 w hw)).1) (hts (.instantiable RX5 4) (List.mem_filter.mp wd_234).1)
  obtain ⟨c6, i6, hK6⟩ := u_known (C := RX7) (T := TX7) (N := 2) (n := 2) hts (fun w hw => (List.mem_filter.mp (tinX7 w hw)).1) (hts (.instantiable RX7 2) (List.mem_filter.mp wd_96).1)
  obtain ⟨c7, i7, hK7⟩ := u_known (C := RX8) (T := TX8) (N := 9) (n := 9) hts (fun w hw => (List.mem_filter.mp (tinX8 w hw)).1) (hts (.instantiable RX8 9) (List.mem_filter.mp wd_88).1)
  obtain ⟨c8, i8, hK8⟩ := u_known (C := RX9) (T := TX9) (N := 29) (n := 29) hts (fun w hw => (List.mem_filter.mp (tinX9 w hw)).1) (hts (.instantiable RX9 29) (List.mem_filter.mp wd_666).1)
  obtain ⟨dC, dI, hKc⟩ : ∃ (dC : Nat → ClassId) (dI : Nat → Nat → Nat), ∀ (k : Nat) (q : vw_C), vwCl[k]? = some q → u_Kn s q.1 q.2.1 q.2.2 (dC k) (dI k) := by
    refine ⟨fun k => [c0, c1, c2, c3, c4, c5, c6, c7, c8].getD k c0, fun k => [i0, i1, i2, i3, i4, i5, i6, i7, i8].getD k i0, ?_⟩
    intro k q hq
    match k, hq with
    | 0, hq => cases hq; exact hK0
    | 1, hq => cases hq; exact hK1
    | 2, hq => cases hq; exact hK2
    | 3, hq => cases hq; exact hK3
    | 4, hq => cases hq; exact hK4
    | 5, hq => cases hq; exact hK5
    | 6, hq => cases hq; exact hK6
    | 7, hq => cases hq; exact hK7
    | 8, hq => cases hq; exact hK8
    | k + 9, hq => simp [vwCl] at hq
  obtain ⟨aI, kI, mI, f1, f2, f3⟩ := Cond.arrayClass_spec (hts _ (List.mem_filter.mp wd_173).1)
  have hAP : va_AO RX2 s := va_AO.of (hts (.arrayOver (.object RX2)) (by decide +kernel))
  have hAS : va_AO RX5 s := va_AO.of (hts (.arrayOver (.object RX5)) (by decide +kernel))
  obtain ⟨mP, aP, kP, p1, -, p3, p4, p5⟩ := Cond.arrayOver_spec hAP
  obtain ⟨mS, aS, kS, s1, -, s3, s4, s5⟩ := Cond.arrayOver_spec hAS
  have hK : hp_K (dC, dI) (fun k => if k = 0 then aI else if k = 1 then aP else aS) s := by
    refine ⟨⟨hKc, fun k q hq => ?_⟩, fun w hw => ?_, hAP, hAS⟩
    · match k, hq with
      | 0, hq => cases hq; exact ⟨fun n z => ⟨fun k h => (by cases h), kI, f2, mI, f3⟩, f1⟩
      | 1, hq => cases hq; exact ⟨fun n z => ⟨fun k h => (by cases h), kP, p3, mP, p4⟩, kP, mP, p3, p4, p1, p5⟩
      | 2, hq => cases hq; exact ⟨fun n z => ⟨fun k h => (by cases h), kS, s3, mS, s4⟩, kS, mS, s3, s4, s1, s5⟩
      | k + 3, hq => simp at hq
    · have h0 := hts w (List.mem_filter.mp hw).1
      have h1 := (List.mem_filter.mp hw).2
      cases w <;> first | (exact va_Nw.of rfl h0) | (exact absurd h1 (by simp [isN_]))
  have hl := lv_entry ([.ref b]) (n := 4) (Nat.le_of_ble_eq_true rfl)
  rw [lg_entry_eq]
  generalize (lg_sl ([.ref b]) ++ List.replicate (4 - (lg_sl ([.ref b])).length) Slot.unset).toArray = ls at hl ⊢
  have hl : lv_has ls 4 (hp_l (s.heap.size, b) [(0, .float 0)]) := hl
  refine tL_law l hg (Q := fun v _ => v = some (.int 1)) rfl p e room_1 s m #[Value.ref b] below meth c _ (dC, dI) _ (s.heap.size, b) s.heap [] ls 0 0 600000 7302250 ⟨⟨hx, hb, hml, hr, hown, hlocks, fun w hw => hts w (List.mem_filter.mp hw).1, fun z => by cases z⟩, hK, Nat.le_refl _, fun q hq => ?_, ⟨by decide, by decide, by decide, by decide⟩, ?_⟩ (by decide) (by decide) ⟨fun _ => rfl, fun k q h => by simp [hp_w] at h⟩ va_S.rf hl
  · cases hq
    exact ⟨hX, hbl, hbl⟩
  · intro v h H locs cells slots pc ls hq hP hS hc hs hd
    subst hq
    refine va_forget (fun q hq => hS.2.2 q hq) ?_
    refine W.widen (k := 600000) (n := 7302250) hc hs ?_
    exact lw_ret hx hb hr hlocks hd.1
