noncomputable def fX2_init (h : hp_H) (a0 : Nat) : Option Unit :=
some ()
set_option maxRecDepth 20000 in
set_option maxHeartbeats 4000000 in
theorem tX2_init (l : Launch) {h : hp_H} {a0 : Nat} {r : Unit} (hf : fX2_init h a0 = some r) {Q : Option Value → hp_H → Prop} (kr : Q (none) h) : hp_G l mX2_init none 1 true Q true 0 0 0 [(0, .ref a0)] [] h := by
  unfold fX2_init at hf
  refine hp_aload_n 0 dX2_init_0 rfl rfl (?_ : hp_G _ _ _ _ _ _ _ _ _ 1 _ _ _)
  refine hp_objInit (List.forall_mem_cons.mpr ⟨wd_107, (List.forall_mem_cons.mpr ⟨wd_93, (List.forall_mem_cons.mpr ⟨wd_94, (fun _ h => absurd h List.not_mem_nil)⟩)⟩)⟩) (by decide) dX2_init_1 (?_ : hp_G _ _ _ _ _ _ _ _ _ 4 _ _ _)
  obtain rfl := Option.some.inj hf
  exact hp_vret kr (fun z => z) rfl dX2_init_4
theorem kX2_init (l : Launch) {h : hp_H} {a0 : Nat} {r : Unit} (hf : fX2_init h a0 = some r) : hp_Cn l yX2_init mX2_init 1 true 0 0 [.ref a0] h (fun v h2 => none = v ∧ h = h2) :=
  hp_of (by decide) rfl (fun z => by rfl) (Nat.le_of_ble_eq_true rfl) (tX2_init l hf ⟨rfl, rfl⟩)
noncomputable def fX7_init (h : hp_H) (a0 : Nat) : Option hp_H :=
(some (List.length h)).bind fun na1 =>
(some (h ++ [.inr (.inr (0, 6, fun _ => none))])).bind fun h2 =>
(pq_ h2 a0 6 0 na1).bind fun h3 =>
(gq_ h3 a0 6 0).bind fun x4 =>
(some (List.length h3)).bind fun na6 =>
(some (h3 ++ [.inl (2, [.int 0, .int 0, .int 0, .int 0])])).bind fun h5 =>
(fX2_init h5 na6).bind fun r7 =>
(qx_ h5 0 2 x4 0 na6).bind fun h8 =>
(gq_ h8 a0 6 0).bind fun x9 =>
(some (List.length h8)).bind fun na11 =>
(some (h8 ++ [.inl (2, [.int 0, .int 0, .int 0, .int 0])])).bind fun h10 =>
(fX2_init h10 na11).bind fun r12 =>
(qx_ h10 0 2 x9 1 na11).bind fun h13 =>
(gq_ h13 a0 6 0).bind fun x14 =>
(some (List.length h13)).bind fun na16 =>
(some (h13 ++ [.inl (2, [.int 0, .int 0, .int 0, .int 0])])).bind fun h15 =>
(fX2_init h15 na16).bind fun r17 =>
(qx_ h15 0 2 x14 2 na16).bind fun h18 =>
(gq_ h18 a0 6 0).bind fun x19 =>
(some (List.length h18)).bind fun na21 =>
(some (h18 ++ [.inl (2, [.int 0, .int 0, .int 0, .int 0])])).bind fun h20 =>
(fX2_init h20 na21).bind fun r22 =>
(qx_ h20 0 2 x19 3 na21).bind fun h23 =>
(gq_ h23 a0 6 0).bind fun x24 =>
(some (List.length h23)).bind fun na26 =>
(some (h23 ++ [.inl (2, [.int 0, .int 0, .int 0, .int 0])])).bind fun h25 =>
(fX2_init h25 na26).bind fun r27 =>
(qx_ h25 0 2 x24 4 na26).bind fun h28 =>
(gq_ h28 a0 6 0).bind fun x29 =>
(some (List.length h28)).bind fun na31 =>
(some (h28 ++ [.inl (2, [.int 0, .int 0, .int 0, .int 0])])).bind fun h30 =>
(fX2_init h30 na31).bind fun r32 =>
(qx_ h30 0 2 x29 5 na31).bind fun h33 =>
some h33
set_option maxRecDepth 20000 in
set_option maxHeartbeats 4000000 in
theorem tX7_init (l : Launch) {h : hp_H} {a0 : Nat} {r : hp_H} (hf : fX7_init h a0 = some r) {Q : Option Value → hp_H → Prop} (kr : Q (none) r) : hp_G l mX7_init none 2 true Q true 7 30 0 [(0, .ref a0)] [] h := by
  unfold fX7_init at hf
  refine hp_aload_n 0 dX7_init_0 rfl rfl (?_ : hp_G _ _ _ _ _ _ _ _ _ 1 _ _ _)
  refine hp_objInit (List.forall_mem_cons.mpr ⟨wd_100, (List.forall_mem_cons.mpr ⟨wd_93, (List.forall_mem_cons.mpr ⟨wd_94, (fun _ h => absurd h List.not_mem_nil)⟩)⟩)⟩) (by decide) dX7_init_1 (?_ : hp_G _ _ _ _ _ _ _ _ _ 4 _ _ _)
  refine hp_aload_n 0 dX7_init_4 rfl rfl (?_ : hp_G _ _ _ _ _ _ _ _ _ 5 _ _ _)
  refine hp_bipush (v := 6) dX7_init_5 bi_6 (?_ : hp_G _ _ _ _ _ _ _ _ _ 7 _ _ _)
  replace hf := ob_ hf
  obtain ⟨na1, ena1, hf⟩ := hf
  replace hf := ob_ hf
  obtain ⟨h2, eh2, hf⟩ := hf
  refine hp_newref (C := RX2) (t := 0) (k := 6) (n := 24) (N := 6) (Or.inl ⟨rfl, rfl⟩) wd_101 (by decide) (by decide) (by decide) dX7_init_7 (hp_nh ena1 eh2 ?_)
  replace hf := ob_ hf
  obtain ⟨h3, eh3, hf⟩ := hf
  refine fpX7_11 rfl rfl dX7_init_10 eh3 (?_ : hp_G _ _ _ _ _ _ _ _ _ 13 _ _ _)
  refine hp_iconst (v := 0) dX7_init_13 ic_0 (?_ : hp_G _ _ _ _ _ _ _ _ _ 14 _ _ _)
  refine hp_istore_n (lv' := [(1, .int 0), (0, .ref a0)]) dX7_init_14 rfl (Nat.le_of_ble_eq_true rfl) rfl (?_ : hp_G _ _ _ _ _ _ _ _ _ 15 _ _ _)
  refine hp_iload_n 0 dX7_init_15 rfl rfl (?_ : hp_G _ _ _ _ _ _ _ _ _ 16 _ _ _)
  refine hp_bipush (v := 6) dX7_init_16 bi_6 (?_ : hp_G _ _ _ _ _ _ _ _ _ 18 _ _ _)
  refine hp_icmp_ge (tgt := 40) dX7_init_18 rfl (fun c => absurd c (by decide)) (fun _ => (?_ : hp_G _ _ _ _ _ _ _ _ _ 21 _ _ _))
  refine hp_aload_n 1 dX7_init_21 rfl rfl (?_ : hp_G _ _ _ _ _ _ _ _ _ 22 _ _ _)
  replace hf := ob_ hf
  obtain ⟨x4, ex4, hf⟩ := hf
  refine fgX7_11 rfl dX7_init_22 ex4 (?_ : hp_G _ _ _ _ _ _ _ _ _ 25 _ _ _)
  refine hp_iload_n 0 dX7_init_25 rfl rfl (?_ : hp_G _ _ _ _ _ _ _ _ _ 26 _ _ _)
  replace hf := ob_ hf
  obtain ⟨na6, ena6, hf⟩ := hf
  replace hf := ob_ hf
  obtain ⟨h5, eh5, hf⟩ := hf
  refine nnX7_9 (k := 5) (n := 20) rfl dX7_init_26 (hp_nh ena6 eh5 ?_)
  refine hp_dup dX7_init_29 rfl (?_ : hp_G _ _ _ _ _ _ _ _ _ 30 _ _ _)
  replace hf := ob_ hf
  obtain ⟨r7, er7, hf⟩ := hf
  refine clX7_17 (k := 5) (n := 20) (as := []) (st := [.ref na6, .int 0, .ref x4]) rfl (kX2_init l er7) rfl (by decide) (Nat.le_of_ble_eq_true rfl) dX7_init_30 rfl (?_ : hp_G _ _ _ _ _ _ _ _ _ 33 _ _ _)
  replace hf := ob_ hf
  obtain ⟨h8, eh8, hf⟩ := hf
  refine hp_aastore (t := 0) (ci := 2) rfl (Or.inl ⟨rfl, rfl⟩) dX7_init_33 eh8 (?_ : hp_G _ _ _ _ _ _ _ _ _ 34 _ _ _)
  refine hp_iinc (v := 1) (lv' := [(1, .int 1), (0, .ref a0)]) 0 dX7_init_34 rfl (by decide) (Nat.le_of_ble_eq_true rfl) rfl (?_ : hp_G _ _ _ _ _ _ _ _ _ 37 _ _ _)
  refine hp_goto (tgt := 15) dX7_init_37 rfl (?_ : hp_G _ _ _ _ _ _ _ _ _ 15 _ _ _)
  refine hp_iload_n 0 dX7_init_15 rfl rfl (?_ : hp_G _ _ _ _ _ _ _ _ _ 16 _ _ _)
  refine hp_bipush (v := 6) dX7_init_16 bi_6 (?_ : hp_G _ _ _ _ _ _ _ _ _ 18 _ _ _)
  refine hp_icmp_ge (tgt := 40) dX7_init_18 rfl (fun c => absurd c (by decide)) (fun _ => (?_ : hp_G _ _ _ _ _ _ _ _ _ 21 _ _ _))
  refine hp_aload_n 1 dX7_init_21 rfl rfl (?_ : hp_G _ _ _ _ _ _ _ _ _ 22 _ _ _)
  replace hf := ob_ hf
  obtain ⟨x9, ex9, hf⟩ := hf
  refine fgX7_11 rfl dX7_init_22 ex9 (?_ : hp_G _ _ _ _ _ _ _ _ _ 25 _ _ _)
  refine hp_iload_n 0 dX7_init_25 rfl rfl (?_ : hp_G _ _ _ _ _ _ _ _ _ 26 _ _ _)
  replace hf := ob_ hf
  obtain ⟨na11, ena11, hf⟩ := hf
  replace hf := ob_ hf
  obtain ⟨h10, eh10, hf⟩ := hf
  refine nnX7_9 (k := 4) (n := 16) rfl dX7_init_26 (hp_nh ena11 eh10 ?_)
  refine hp_dup dX7_init_29 rfl (?_ : hp_G _ _ _ _ _ _ _ _ _ 30 _ _ _)
  replace hf := ob_ hf
  obtain ⟨r12, er12, hf⟩ := hf
  refine clX7_17 (k := 4) (n := 16) (as := []) (st := [.ref na11, .int 1, .ref x9]) rfl (kX2_init l er12) rfl (by decide) (Nat.le_of_ble_eq_true rfl) dX7_init_30 rfl (?_ : hp_G _ _ _ _ _ _ _ _ _ 33 _ _ _)
  replace hf := ob_ hf
  obtain ⟨h13, eh13, hf⟩ := hf
  refine hp_aastore (t := 0) (ci := 2) rfl (Or.inl ⟨rfl, rfl⟩) dX7_init_33 eh13 (?_ : hp_G _ _ _ _ _ _ _ _ _ 34 _ _ _)
  refine hp_iinc (v := 2) (lv' := [(1, .int 2), (0, .ref a0)]) 0 dX7_init_34 rfl (by decide) (Nat.le_of_ble_eq_true rfl) rfl (?_ : hp_G _ _ _ _ _ _ _ _ _ 37 _ _ _)
  refine hp_goto (tgt := 15) dX7_init_37 rfl (?_ : hp_G _ _ _ _ _ _ _ _ _ 15 _ _ _)
  refine hp_iload_n 0 dX7_init_15 rfl rfl (?_ : hp_G _ _ _ _ _ _ _ _ _ 16 _ _ _)
  refine hp_bipush (v := 6) dX7_init_16 bi_6 (?_ : hp_G _ _ _ _ _ _ _ _ _ 18 _ _ _)
  refine hp_icmp_ge (tgt := 40) dX7_init_18 rfl (fun c => absurd c (by decide)) (fun _ => (?_ : hp_G _ _ _ _ _ _ _ _ _ 21 _ _ _))
  refine hp_aload_n 1 dX7_init_21 rfl rfl (?_ : hp_G _ _ _ _ _ _ _ _ _ 22 _ _ _)
  replace hf := ob_ hf
  obtain ⟨x14, ex14, hf⟩ := hf
  refine fgX7_11 rfl dX7_init_22 ex14 (?_ : hp_G _ _ _ _ _ _ _ _ _ 25 _ _ _)
  refine hp_iload_n 0 dX7_init_25 rfl rfl (?_ : hp_G _ _ _ _ _ _ _ _ _ 26 _ _ _)
  replace hf := ob_ hf
  obtain ⟨na16, ena16, hf⟩ := hf
  replace hf := ob_ hf
  obtain ⟨h15, eh15, hf⟩ := hf
  refine nnX7_9 (k := 3) (n := 12) rfl dX7_init_26 (hp_nh ena16 eh15 ?_)
  refine hp_dup dX7_init_29 rfl (?_ : hp_G _ _ _ _ _ _ _ _ _ 30 _ _ _)
  replace hf := ob_ hf
  obtain ⟨r17, er17, hf⟩ := hf
  refine clX7_17 (k := 3) (n := 12) (as := []) (st := [.ref na16, .int 2, .ref x14]) rfl (kX2_init l er17) rfl (by decide) (Nat.le_of_ble_eq_true rfl) dX7_init_30 rfl (?_ : hp_G _ _ _ _ _ _ _ _ _ 33 _ _ _)
  replace hf := ob_ hf
  obtain ⟨h18, eh18, hf⟩ := hf
  refine hp_aastore (t := 0) (ci := 2) rfl (Or.inl ⟨rfl, rfl⟩) dX7_init_33 eh18 (?_ : hp_G _ _ _ _ _ _ _ _ _ 34 _ _ _)
  refine hp_iinc (v := 3) (lv' := [(1, .int 3), (0, .ref a0)]) 0 dX7_init_34 rfl (by decide) (Nat.le_of_ble_eq_true rfl) rfl (?_ : hp_G _ _ _ _ _ _ _ _ _ 37 _ _ _)
  refine hp_goto (tgt := 15) dX7_init_37 rfl (?_ : hp_G _ _ _ _ _ _ _ _ _ 15 _ _ _)
  refine hp_iload_n 0 dX7_init_15 rfl rfl (?_ : hp_G _ _ _ _ _ _ _ _ _ 16 _ _ _)
  refine hp_bipush (v := 6) dX7_init_16 bi_6 (?_ : hp_G _ _ _ _ _ _ _ _ _ 18 _ _ _)
  refine hp_icmp_ge (tgt := 40) dX7_init_18 rfl (fun c => absurd c (by decide)) (fun _ => (?_ : hp_G _ _ _ _ _ _ _ _ _ 21 _ _ _))
  refine hp_aload_n 1 dX7_init_21 rfl rfl (?_ : hp_G _ _ _ _ _ _ _ _ _ 22 _ _ _)
  replace hf := ob_ hf
  obtain ⟨x19, ex19, hf⟩ := hf
  refine fgX7_11 rfl dX7_init_22 ex19 (?_ : hp_G _ _ _ _ _ _ _ _ _ 25 _ _ _)
  refine hp_iload_n 0 dX7_init_25 rfl rfl (?_ : hp_G _ _ _ _ _ _ _ _ _ 26 _ _ _)
  replace hf := ob_ hf
  obtain ⟨na21, ena21, hf⟩ := hf
  replace hf := ob_ hf
  obtain ⟨h20, eh20, hf⟩ := hf
  refine nnX7_9 (k := 2) (n := 8) rfl dX7_init_26 (hp_nh ena21 eh20 ?_)
  refine hp_dup dX7_init_29 rfl (?_ : hp_G _ _ _ _ _ _ _ _ _ 30 _ _ _)
  replace hf := ob_ hf
  obtain ⟨r22, er22, hf⟩ := hf
  refine clX7_17 (k := 2) (n := 8) (as := []) (st := [.ref na21, .int 3, .ref x19]) rfl (kX2_init l er22) rfl (by decide) (Nat.le_of_ble_eq_true rfl) dX7_init_30 rfl (?_ : hp_G _ _ _ _ _ _ _ _ _ 33 _ _ _)
  replace hf := ob_ hf
  obtain ⟨h23, eh23, hf⟩ := hf
  refine hp_aastore (t := 0) (ci := 2) rfl (Or.inl ⟨rfl, rfl⟩) dX7_init_33 eh23 (?_ : hp_G _ _ _ _ _ _ _ _ _ 34 _ _ _)
  refine hp_iinc (v := 4) (lv' := [(1, .int 4), (0, .ref a0)]) 0 dX7_init_34 rfl (by decide) (Nat.le_of_ble_eq_true rfl) rfl (?_ : hp_G _ _ _ _ _ _ _ _ _ 37 _ _ _)
  refine hp_goto (tgt := 15) dX7_init_37 rfl (?_ : hp_G _ _ _ _ _ _ _ _ _ 15 _ _ _)
  refine hp_iload_n 0 dX7_init_15 rfl rfl (?_ : hp_G _ _ _ _ _ _ _ _ _ 16 _ _ _)
  refine hp_bipush (v := 6) dX7_init_16 bi_6 (?_ : hp_G _ _ _ _ _ _ _ _ _ 18 _ _ _)
  refine hp_icmp_ge (tgt := 40) dX7_init_18 rfl (fun c => absurd c (by decide)) (fun _ => (?_ : hp_G _ _ _ _ _ _ _ _ _ 21 _ _ _))
  refine hp_aload_n 1 dX7_init_21 rfl rfl (?_ : hp_G _ _ _ _ _ _ _ _ _ 22 _ _ _)
  replace hf := ob_ hf
  obtain ⟨x24, ex24, hf⟩ := hf
  refine fgX7_11 rfl dX7_init_22 ex24 (?_ : hp_G _ _ _ _ _ _ _ _ _ 25 _ _ _)
  refine hp_iload_n 0 dX7_init_25 rfl rfl (?_ : hp_G _ _ _ _ _ _ _ _ _ 26 _ _ _)
  replace hf := ob_ hf
  obtain ⟨na26, ena26, hf⟩ := hf
  replace hf := ob_ hf
  obtain ⟨h25, eh25, hf⟩ := hf
  refine nnX7_9 (k := 1) (n := 4) rfl dX7_init_26 (hp_nh ena26 eh25 ?_)
  refine hp_dup dX7_init_29 rfl (?_ : hp_G _ _ _ _ _ _ _ _ _ 30 _ _ _)
  replace hf := ob_ hf
  obtain ⟨r27, er27, hf⟩ := hf
  refine clX7_17 (k := 1) (n := 4) (as := []) (st := [.ref na26, .int 4, .ref x24]) rfl (kX2_init l er27) rfl (by decide) (Nat.le_of_ble_eq_true rfl) dX7_init_30 rfl (?_ : hp_G _ _ _ _ _ _ _ _ _ 33 _ _ _)
  replace hf := ob_ hf
  obtain ⟨h28, eh28, hf⟩ := hf
  refine hp_aastore (t := 0) (ci := 2) rfl (Or.inl ⟨rfl, rfl⟩) dX7_init_33 eh28 (?_ : hp_G _ _ _ _ _ _ _ _ _ 34 _ _ _)
  refine hp_iinc (v := 5) (lv' := [(1, .int 5), (0, .ref a0)]) 0 dX7_init_34 rfl (by decide) (Nat.le_of_ble_eq_true rfl) rfl (?_ : hp_G _ _ _ _ _ _ _ _ _ 37 _ _ _)
  refine hp_goto (tgt := 15) dX7_init_37 rfl (?_ : hp_G _ _ _ _ _ _ _ _ _ 15 _ _ _)
  refine hp_iload_n 0 dX7_init_15 rfl rfl (?_ : hp_G _ _ _ _ _ _ _ _ _ 16 _ _ _)
  refine hp_bipush (v := 6) dX7_init_16 bi_6 (?_ : hp_G _ _ _ _ _ _ _ _ _ 18 _ _ _)
  refine hp_icmp_ge (tgt := 40) dX7_init_18 rfl (fun c => absurd c (by decide)) (fun _ => (?_ : hp_G _ _ _ _ _ _ _ _ _ 21 _ _ _))
  refine hp_aload_n 1 dX7_init_21 rfl rfl (?_ : hp_G _ _ _ _ _ _ _ _ _ 22 _ _ _)
  replace hf := ob_ hf
  obtain ⟨x29, ex29, hf⟩ := hf
  refine fgX7_11 rfl dX7_init_22 ex29 (?_ : hp_G _ _ _ _ _ _ _ _ _ 25 _ _ _)
  refine hp_iload_n 0 dX7_init_25 rfl rfl (?_ : hp_G _ _ _ _ _ _ _ _ _ 26 _ _ _)
  replace hf := ob_ hf
  obtain ⟨na31, ena31, hf⟩ := hf
  replace hf := ob_ hf
  obtain ⟨h30, eh30, hf⟩ := hf
  refine nnX7_9 (k := 0) (n := 0) rfl dX7_init_26 (hp_nh ena31 eh30 ?_)
  refine hp_dup dX7_init_29 rfl (?_ : hp_G _ _ _ _ _ _ _ _ _ 30 _ _ _)
  replace hf := ob_ hf
  obtain ⟨r32, er32, hf⟩ := hf
  refine clX7_17 (k := 0) (n := 0) (as := []) (st := [.ref na31, .int 5, .ref x29]) rfl (kX2_init l er32) rfl (by decide) (Nat.le_of_ble_eq_true rfl) dX7_init_30 rfl (?_ : hp_G _ _ _ _ _ _ _ _ _ 33 _ _ _)
  replace hf := ob_ hf
  obtain ⟨h33, eh33, hf⟩ := hf
  refine hp_aastore (t := 0) (ci := 2) rfl (Or.inl ⟨rfl, rfl⟩) dX7_init_33 eh33 (?_ : hp_G _ _ _ _ _ _ _ _ _ 34 _ _ _)
  refine hp_iinc (v := 6) (lv' := [(1, .int 6), (0, .ref a0)]) 0 dX7_init_34 rfl (by decide) (Nat.le_of_ble_eq_true rfl) rfl (?_ : hp_G _ _ _ _ _ _ _ _ _ 37 _ _ _)
  refine hp_goto (tgt := 15) dX7_init_37 rfl (?_ : hp_G _ _ _ _ _ _ _ _ _ 15 _ _ _)
  refine hp_iload_n 0 dX7_init_15 rfl rfl (?_ : hp_G _ _ _ _ _ _ _ _ _ 16 _ _ _)
  refine hp_bipush (v := 6) dX7_init_16 bi_6 (?_ : hp_G _ _ _ _ _ _ _ _ _ 18 _ _ _)
  refine hp_icmp_ge (tgt := 40) dX7_init_18 rfl (fun _ => ?_) (fun c => absurd c (by decide))
  obtain rfl := Option.some.inj hf
  exact hp_vret kr (fun z => z) rfl dX7_init_40
theorem kX7_init (l : Launch) {h : hp_H} {a0 : Nat} {r : hp_H} (hf : fX7_init h a0 = some r) : hp_Cn l yX7_init mX7_init 2 true 7 30 [.ref a0] h (fun v h2 => none = v ∧ r = h2) :=
  hp_of (by decide) rfl (fun z => by rfl) (Nat.le_of_ble_eq_true rfl) (tX7_init l hf ⟨rfl, rfl⟩)
noncomputable def fX0_init (h : hp_H) (a0 : Nat) : Option hp_H :=
(some (List.length h)).bind fun na1 =>
(some (h ++ [.inr (.inl (8, fun _ => 0))])).bind fun h2 =>
(pq_ h2 a0 0 0 na1).bind fun h3 =>
(some (List.length h3)).bind fun na4 =>
(some (h3 ++ [.inr (.inl (8, fun _ => 0))])).bind fun h5 =>
(pq_ h5 a0 0 1 na4).bind fun h6 =>
(some (List.length h6)).bind fun na7 =>
(some (h6 ++ [.inr (.inl (8, fun _ => 0))])).bind fun h8 =>
(pq_ h8 a0 0 2 na7).bind fun h9 =>
(some (List.length h9)).bind fun na10 =>
(some (h9 ++ [.inr (.inl (8, fun _ => 0))])).bind fun h11 =>
(pq_ h11 a0 0 3 na10).bind fun h12 =>
some h12
set_option maxRecDepth 20000 in
set_option maxHeartbeats 4000000 in
theorem tX0_init (l : Launch) {h : hp_H} {a0 : Nat} {r : hp_H} (hf : fX0_init h a0 = some r) {Q : Option Value → hp_H → Prop} (kr : Q (none) r) : hp_G l mX0_init none 1 true Q true 4 32 0 [(0, .ref a0)] [] h := by
  unfold fX0_init at hf
  refine hp_aload_n 0 dX0_init_0 rfl rfl (?_ : hp_G _ _ _ _ _ _ _ _ _ 1 _ _ _)
  refine hp_objInit (List.forall_mem_cons.mpr ⟨wd_155, (List.forall_mem_cons.mpr ⟨wd_93, (List.forall_mem_cons.mpr ⟨wd_94, (fun _ h => absurd h List.not_mem_nil)⟩)⟩)⟩) (by decide) dX0_init_1 (?_ : hp_G _ _ _ _ _ _ _ _ _ 4 _ _ _)
  refine hp_aload_n 0 dX0_init_4 rfl rfl (?_ : hp_G _ _ _ _ _ _ _ _ _ 5 _ _ _)
  refine hp_bipush (v := 8) dX0_init_5 bi_8 (?_ : hp_G _ _ _ _ _ _ _ _ _ 7 _ _ _)
  replace hf := ob_ hf
  obtain ⟨na1, ena1, hf⟩ := hf
  replace hf := ob_ hf
  obtain ⟨h2, eh2, hf⟩ := hf
  refine hp_newarr (k := 3) (n := 24) (N := 8) wd_173 (by decide) (by decide) (by decide) dX0_init_7 (hp_nh ena1 eh2 ?_)
  replace hf := ob_ hf
  obtain ⟨h3, eh3, hf⟩ := hf
  refine fpX0_9 rfl rfl dX0_init_9 eh3 (?_ : hp_G _ _ _ _ _ _ _ _ _ 12 _ _ _)
  refine hp_aload_n 0 dX0_init_12 rfl rfl (?_ : hp_G _ _ _ _ _ _ _ _ _ 13 _ _ _)
  refine hp_bipush (v := 8) dX0_init_13 bi_8 (?_ : hp_G _ _ _ _ _ _ _ _ _ 15 _ _ _)
  replace hf := ob_ hf
  obtain ⟨na4, ena4, hf⟩ := hf
  replace hf := ob_ hf
  obtain ⟨h5, eh5, hf⟩ := hf
  refine hp_newarr (k := 2) (n := 16) (N := 8) wd_173 (by decide) (by decide) (by decide) dX0_init_15 (hp_nh ena4 eh5 ?_)
  replace hf := ob_ hf
  obtain ⟨h6, eh6, hf⟩ := hf
  refine fpX0_15 rfl rfl dX0_init_17 eh6 (?_ : hp_G _ _ _ _ _ _ _ _ _ 20 _ _ _)
  refine hp_aload_n 0 dX0_init_20 rfl rfl (?_ : hp_G _ _ _ _ _ _ _ _ _ 21 _ _ _)
  refine hp_bipush (v := 8) dX0_init_21 bi_8 (?_ : hp_G _ _ _ _ _ _ _ _ _ 23 _ _ _)
  replace hf := ob_ hf
  obtain ⟨na7, ena7, hf⟩ := hf
  replace hf := ob_ hf
  obtain ⟨h8, eh8, hf⟩ := hf
  refine hp_newarr (k := 1) (n := 8) (N := 8) wd_173 (by decide) (by decide) (by decide) dX0_init_23 (hp_nh ena7 eh8 ?_)
  replace hf := ob_ hf
  obtain ⟨h9, eh9, hf⟩ := hf
  refine fpX0_18 rfl rfl dX0_init_25 eh9 (?_ : hp_G _ _ _ _ _ _ _ _ _ 28 _ _ _)
  refine hp_aload_n 0 dX0_init_28 rfl rfl (?_ : hp_G _ _ _ _ _ _ _ _ _ 29 _ _ _)
  refine hp_bipush (v := 8) dX0_init_29 bi_8 (?_ : hp_G _ _ _ _ _ _ _ _ _ 31 _ _ _)
  replace hf := ob_ hf
  obtain ⟨na10, ena10, hf⟩ := hf
  replace hf := ob_ hf
  obtain ⟨h11, eh11, hf⟩ := hf
  refine hp_newarr (k := 0) (n := 0) (N := 8) wd_173 (by decide) (by decide) (by decide) dX0_init_31 (hp_nh ena10 eh11 ?_)
  replace hf := ob_ hf
  obtain ⟨h12, eh12, hf⟩ := hf
  refine fpX0_21 rfl rfl dX0_init_33 eh12 (?_ : hp_G _ _ _ _ _ _ _ _ _ 36 _ _ _)
  obtain rfl := Option.some.inj hf
  exact hp_vret kr (fun z => z) rfl dX0_init_36
theorem kX0_init (l : Launch) {h : hp_H} {a0 : Nat} {r : hp_H} (hf : fX0_init h a0 = some r) : hp_Cn l yX0_init mX0_init 1 true 4 32 [.ref a0] h (fun v h2 => none = v ∧ r = h2) :=
  hp_of (by decide) rfl (fun z => by rfl) (Nat.le_of_ble_eq_true rfl) (tX0_init l hf ⟨rfl, rfl⟩)
noncomputable def fX4_init (h : hp_H) (a0 : Nat) : Option hp_H :=
(some (List.length h)).bind fun na2 =>
(some (h ++ [.inl (6, [.null, .int 0])])).bind fun h1 =>
(fX7_init h1 na2).bind fun r3 =>
(pq_ r3 a0 4 0 na2).bind fun h4 =>
(some (List.length h4)).bind fun na5 =>
(some (h4 ++ [.inr (.inl (6, fun _ => 0))])).bind fun h6 =>
(pq_ h6 a0 4 1 na5).bind fun h7 =>
some h7
set_option maxRecDepth 20000 in
set_option maxHeartbeats 4000000 in
theorem tX4_init (l : Launch) {h : hp_H} {a0 : Nat} {r : hp_H} (hf : fX4_init h a0 = some r) {Q : Option Value → hp_H → Prop} (kr : Q (none) r) : hp_G l mX4_init none 3 true Q true 9 38 0 [(0, .ref a0)] [] h := by
  unfold fX4_init at hf
  refine hp_aload_n 0 dX4_init_0 rfl rfl (?_ : hp_G _ _ _ _ _ _ _ _ _ 1 _ _ _)
  refine hp_objInit (List.forall_mem_cons.mpr ⟨wd_179, (List.forall_mem_cons.mpr ⟨wd_93, (List.forall_mem_cons.mpr ⟨wd_94, (fun _ h => absurd h List.not_mem_nil)⟩)⟩)⟩) (by decide) dX4_init_1 (?_ : hp_G _ _ _ _ _ _ _ _ _ 4 _ _ _)
  refine hp_aload_n 0 dX4_init_4 rfl rfl (?_ : hp_G _ _ _ _ _ _ _ _ _ 5 _ _ _)
  replace hf := ob_ hf
  obtain ⟨na2, ena2, hf⟩ := hf
  replace hf := ob_ hf
  obtain ⟨h1, eh1, hf⟩ := hf
  refine nnX4_9 (k := 8) (n := 36) rfl dX4_init_5 (hp_nh ena2 eh1 ?_)
  refine hp_dup dX4_init_8 rfl (?_ : hp_G _ _ _ _ _ _ _ _ _ 9 _ _ _)
  replace hf := ob_ hf
  obtain ⟨r3, er3, hf⟩ := hf
  refine clX4_11 (k := 1) (n := 6) (as := []) (st := [.ref na2, .ref a0]) rfl (kX7_init l er3) rfl (by decide) (Nat.le_of_ble_eq_true rfl) dX4_init_9 rfl (?_ : hp_G _ _ _ _ _ _ _ _ _ 12 _ _ _)
  replace hf := ob_ hf
  obtain ⟨h4, eh4, hf⟩ := hf
  refine fpX4_12 rfl rfl dX4_init_12 eh4 (?_ : hp_G _ _ _ _ _ _ _ _ _ 15 _ _ _)
  refine hp_aload_n 0 dX4_init_15 rfl rfl (?_ : hp_G _ _ _ _ _ _ _ _ _ 16 _ _ _)
  refine hp_bipush (v := 6) dX4_init_16 bi_6 (?_ : hp_G _ _ _ _ _ _ _ _ _ 18 _ _ _)
  replace hf := ob_ hf
  obtain ⟨na5, ena5, hf⟩ := hf
  replace hf := ob_ hf
  obtain ⟨h6, eh6, hf⟩ := hf
  refine hp_newarr (k := 0) (n := 0) (N := 6) wd_173 (by decide) (by decide) (by decide) dX4_init_18 (hp_nh ena5 eh6 ?_)
  replace hf := ob_ hf
  obtain ⟨h7, eh7, hf⟩ := hf
  refine fpX4_18 rfl rfl dX4_init_20 eh7 (?_ : hp_G _ _ _ _ _ _ _ _ _ 23 _ _ _)
  obtain rfl := Option.some.inj hf
  exact hp_vret kr (fun z => z) rfl dX4_init_23
theorem kX4_init (l : Launch) {h : hp_H} {a0 : Nat} {r : hp_H} (hf : fX4_init h a0 = some r) : hp_Cn l yX4_init mX4_init 3 true 9 38 [.ref a0] h (fun v h2 => none = v ∧ r = h2) :=
  hp_of (by decide) rfl (fun z => by rfl) (Nat.le_of_ble_eq_true rfl) (tX4_init l hf ⟨rfl, rfl⟩)
noncomputable def fX1_init (h : hp_H) (a0 : Nat) : Option hp_H :=
(some (List.length h)).bind fun na1 =>
(some (h ++ [.inr (.inl (6, fun _ => 0))])).bind fun h2 =>
(pq_ h2 a0 1 0 na1).bind fun h3 =>
(some (List.length h3)).bind fun na4 =>
(some (h3 ++ [.inr (.inl (6, fun _ => 0))])).bind fun h5 =>
(pq_ h5 a0 1 1 na4).bind fun h6 =>
some h6
set_option maxRecDepth 20000 in
set_option maxHeartbeats 4000000 in
theorem tX1_init (l : Launch) {h : hp_H} {a0 : Nat} {r : hp_H} (hf : fX1_init h a0 = some r) {Q : Option Value → hp_H → Prop} (kr : Q (none) r) : hp_G l mX1_init none 1 true Q true 2 12 0 [(0, .ref a0)] [] h := by
  unfold fX1_init at hf
  refine hp_aload_n 0 dX1_init_0 rfl rfl (?_ : hp_G _ _ _ _ _ _ _ _ _ 1 _ _ _)
  refine hp_objInit (List.forall_mem_cons.mpr ⟨wd_203, (List.forall_mem_cons.mpr ⟨wd_93, (List.forall_mem_cons.mpr ⟨wd_94, (fun _ h => absurd h List.not_mem_nil)⟩)⟩)⟩) (by decide) dX1_init_1 (?_ : hp_G _ _ _ _ _ _ _ _ _ 4 _ _ _)
  refine hp_aload_n 0 dX1_init_4 rfl rfl (?_ : hp_G _ _ _ _ _ _ _ _ _ 5 _ _ _)
  refine hp_bipush (v := 6) dX1_init_5 bi_6 (?_ : hp_G _ _ _ _ _ _ _ _ _ 7 _ _ _)
  replace hf := ob_ hf
  obtain ⟨na1, ena1, hf⟩ := hf
  replace hf := ob_ hf
  obtain ⟨h2, eh2, hf⟩ := hf
  refine hp_newarr (k := 1) (n := 6) (N := 6) wd_173 (by decide) (by decide) (by decide) dX1_init_7 (hp_nh ena1 eh2 ?_)
  replace hf := ob_ hf
  obtain ⟨h3, eh3, hf⟩ := hf
  refine fpX1_9 rfl rfl dX1_init_9 eh3 (?_ : hp_G _ _ _ _ _ _ _ _ _ 12 _ _ _)
  refine hp_aload_n 0 dX1_init_12 rfl rfl (?_ : hp_G _ _ _ _ _ _ _ _ _ 13 _ _ _)
  refine hp_bipush (v := 6) dX1_init_13 bi_6 (?_ : hp_G _ _ _ _ _ _ _ _ _ 15 _ _ _)
  replace hf := ob_ hf
  obtain ⟨na4, ena4, hf⟩ := hf
  replace hf := ob_ hf
  obtain ⟨h5, eh5, hf⟩ := hf
  refine hp_newarr (k := 0) (n := 0) (N := 6) wd_173 (by decide) (by decide) (by decide) dX1_init_15 (hp_nh ena4 eh5 ?_)
  replace hf := ob_ hf
  obtain ⟨h6, eh6, hf⟩ := hf
  refine fpX1_15 rfl rfl dX1_init_17 eh6 (?_ : hp_G _ _ _ _ _ _ _ _ _ 20 _ _ _)
  obtain rfl := Option.some.inj hf
  exact hp_vret kr (fun z => z) rfl dX1_init_20
theorem kX1_init (l : Launch) {h : hp_H} {a0 : Nat} {r : hp_H} (hf : fX1_init h a0 = some r) : hp_Cn l yX1_init mX1_init 1 true 2 12 [.ref a0] h (fun v h2 => none = v ∧ r = h2) :=
  hp_of (by decide) rfl (fun z => by rfl) (Nat.le_of_ble_eq_true rfl) (tX1_init l hf ⟨rfl, rfl⟩)
noncomputable def fX3_init (h : hp_H) (a0 : Nat) : Option hp_H :=
(some (List.length h)).bind fun na1 =>
(some (h ++ [.inr (.inl (6, fun _ => 0))])).bind fun h2 =>
(pq_ h2 a0 3 0 na1).bind fun h3 =>
(some (List.length h3)).bind fun na4 =>
(some (h3 ++ [.inr (.inl (64, fun _ => 0))])).bind fun h5 =>
(pq_ h5 a0 3 1 na4).bind fun h6 =>
(some (List.length h6)).bind fun na7 =>
(some (h6 ++ [.inr (.inl (6, fun _ => 0))])).bind fun h8 =>
(pq_ h8 a0 3 2 na7).bind fun h9 =>
some h9
set_option maxRecDepth 20000 in
set_option maxHeartbeats 4000000 in
theorem tX3_init (l : Launch) {h : hp_H} {a0 : Nat} {r : hp_H} (hf : fX3_init h a0 = some r) {Q : Option Value → hp_H → Prop} (kr : Q (none) r) : hp_G l mX3_init none 1 true Q true 3 76 0 [(0, .ref a0)] [] h := by
  unfold fX3_init at hf
  refine hp_aload_n 0 dX3_init_0 rfl rfl (?_ : hp_G _ _ _ _ _ _ _ _ _ 1 _ _ _)
  refine hp_objInit (List.forall_mem_cons.mpr ⟨wd_220, (List.forall_mem_cons.mpr ⟨wd_93, (List.forall_mem_cons.mpr ⟨wd_94, (fun _ h => absurd h List.not_mem_nil)⟩)⟩)⟩) (by decide) dX3_init_1 (?_ : hp_G _ _ _ _ _ _ _ _ _ 4 _ _ _)
  refine hp_aload_n 0 dX3_init_4 rfl rfl (?_ : hp_G _ _ _ _ _ _ _ _ _ 5 _ _ _)
  refine hp_bipush (v := 6) dX3_init_5 bi_6 (?_ : hp_G _ _ _ _ _ _ _ _ _ 7 _ _ _)
  replace hf := ob_ hf
  obtain ⟨na1, ena1, hf⟩ := hf
  replace hf := ob_ hf
  obtain ⟨h2, eh2, hf⟩ := hf
  refine hp_newarr (k := 2) (n := 70) (N := 6) wd_173 (by decide) (by decide) (by decide) dX3_init_7 (hp_nh ena1 eh2 ?_)
  replace hf := ob_ hf
  obtain ⟨h3, eh3, hf⟩ := hf
  refine fpX3_9 rfl rfl dX3_init_9 eh3 (?_ : hp_G _ _ _ _ _ _ _ _ _ 12 _ _ _)
  refine hp_aload_n 0 dX3_init_12 rfl rfl (?_ : hp_G _ _ _ _ _ _ _ _ _ 13 _ _ _)
  refine hp_bipush (v := 64) dX3_init_13 bi_64 (?_ : hp_G _ _ _ _ _ _ _ _ _ 15 _ _ _)
  replace hf := ob_ hf
  obtain ⟨na4, ena4, hf⟩ := hf
  replace hf := ob_ hf
  obtain ⟨h5, eh5, hf⟩ := hf
  refine hp_newarr (k := 1) (n := 6) (N := 64) wd_173 (by decide) (by decide) (by decide) dX3_init_15 (hp_nh ena4 eh5 ?_)
  replace hf := ob_ hf
  obtain ⟨h6, eh6, hf⟩ := hf
  refine fpX3_15 rfl rfl dX3_init_17 eh6 (?_ : hp_G _ _ _ _ _ _ _ _ _ 20 _ _ _)
  refine hp_aload_n 0 dX3_init_20 rfl rfl (?_ : hp_G _ _ _ _ _ _ _ _ _ 21 _ _ _)
  refine hp_bipush (v := 6) dX3_init_21 bi_6 (?_ : hp_G _ _ _ _ _ _ _ _ _ 23 _ _ _)
  replace hf := ob_ hf
  obtain ⟨na7, ena7, hf⟩ := hf
  replace hf := ob_ hf
  obtain ⟨h8, eh8, hf⟩ := hf
  refine hp_newarr (k := 0) (n := 0) (N := 6) wd_173 (by decide) (by decide) (by decide) dX3_init_23 (hp_nh ena7 eh8 ?_)
  replace hf := ob_ hf
  obtain ⟨h9, eh9, hf⟩ := hf
  refine fpX3_18 rfl rfl dX3_init_25 eh9 (?_ : hp_G _ _ _ _ _ _ _ _ _ 28 _ _ _)
  obtain rfl := Option.some.inj hf
  exact hp_vret kr (fun z => z) rfl dX3_init_28
theorem kX3_init (l : Launch) {h : hp_H} {a0 : Nat} {r : hp_H} (hf : fX3_init h a0 = some r) : hp_Cn l yX3_init mX3_init 1 true 3 76 [.ref a0] h (fun v h2 => none = v ∧ r = h2) :=
  hp_of (by decide) rfl (fun z => by rfl) (Nat.le_of_ble_eq_true rfl) (tX3_init l hf ⟨rfl, rfl⟩)
noncomputable def fX5_init (h : hp_H) (a0 : Nat) : Option hp_H :=
(some (List.length h)).bind fun na1 =>
(some (h ++ [.inr (.inl (60, fun _ => 0))])).bind fun h2 =>
(pq_ h2 a0 5 0 na1).bind fun h3 =>
some h3
set_option maxRecDepth 20000 in
set_option maxHeartbeats 4000000 in
theorem tX5_init (l : Launch) {h : hp_H} {a0 : Nat} {r : hp_H} (hf : fX5_init h a0 = some r) {Q : Option Value → hp_H → Prop} (kr : Q (none) r) : hp_G l mX5_init none 1 true Q true 1 60 0 [(0, .ref a0)] [] h := by
  unfold fX5_init at hf
  refine hp_aload_n 0 dX5_init_0 rfl rfl (?_ : hp_G _ _ _ _ _ _ _ _ _ 1 _ _ _)
  refine hp_objInit (List.forall_mem_cons.mpr ⟨wd_238, (List.forall_mem_cons.mpr ⟨wd_93, (List.forall_mem_cons.mpr ⟨wd_94, (fun _ h => absurd h List.not_mem_nil)⟩)⟩)⟩) (by decide) dX5_init_1 (?_ : hp_G _ _ _ _ _ _ _ _ _ 4 _ _ _)
  refine hp_aload_n 0 dX5_init_4 rfl rfl (?_ : hp_G _ _ _ _ _ _ _ _ _ 5 _ _ _)
  refine hp_bipush (v := 60) dX5_init_5 bi_60 (?_ : hp_G _ _ _ _ _ _ _ _ _ 7 _ _ _)
  replace hf := ob_ hf
  obtain ⟨na1, ena1, hf⟩ := hf
  replace hf := ob_ hf
  obtain ⟨h2, eh2, hf⟩ := hf
  refine hp_newarr (k := 0) (n := 0) (N := 60) wd_173 (by decide) (by decide) (by decide) dX5_init_7 (hp_nh ena1 eh2 ?_)
  replace hf := ob_ hf
  obtain ⟨h3, eh3, hf⟩ := hf
  refine fpX5_9 rfl rfl dX5_init_9 eh3 (?_ : hp_G _ _ _ _ _ _ _ _ _ 12 _ _ _)
  obtain rfl := Option.some.inj hf
  exact hp_vret kr (fun z => z) rfl dX5_init_12
theorem kX5_init (l : Launch) {h : hp_H} {a0 : Nat} {r : hp_H} (hf : fX5_init h a0 = some r) : hp_Cn l yX5_init mX5_init 1 true 1 60 [.ref a0] h (fun v h2 => none = v ∧ r = h2) :=
  hp_of (by decide) rfl (fun z => by rfl) (Nat.le_of_ble_eq_true rfl) (tX5_init l hf ⟨rfl, rfl⟩)
noncomputable def fX8_init (h : hp_H) (a0 : Nat) : Option hp_H :=
(some (List.length h)).bind fun na2 =>
(some (h ++ [.inl (6, [.null, .int 0])])).bind fun h1 =>
(fX7_init h1 na2).bind fun r3 =>
(pq_ r3 a0 7 0 na2).bind fun h4 =>
(some (List.length h4)).bind fun na5 =>
(some (h4 ++ [.inr (.inr (1, 4, fun _ => none))])).bind fun h6 =>
(pq_ h6 a0 7 1 na5).bind fun h7 =>
(some (List.length h7)).bind fun na9 =>
(some (h7 ++ [.inl (0, [.null, .null, .null, .null, .int 0])])).bind fun h8 =>
(fX0_init h8 na9).bind fun r10 =>
(pq_ r10 a0 7 2 na9).bind fun h11 =>
(some (List.length h11)).bind fun na13 =>
(some (h11 ++ [.inl (4, [.null, .null, .int 0, .int 0, .int 0])])).bind fun h12 =>
(fX4_init h12 na13).bind fun r14 =>
(pq_ r14 a0 7 3 na13).bind fun h15 =>
(some (List.length h15)).bind fun na17 =>
(some (h15 ++ [.inl (1, [.null, .null, .int 0])])).bind fun h16 =>
(fX1_init h16 na17).bind fun r18 =>
(pq_ r18 a0 7 4 na17).bind fun h19 =>
(some (List.length h19)).bind fun na21 =>
(some (h19 ++ [.inl (3, [.null, .null, .null, .int 0])])).bind fun h20 =>
(fX3_init h20 na21).bind fun r22 =>
(pq_ r22 a0 7 5 na21).bind fun h23 =>
(gq_ h23 a0 7 1).bind fun x24 =>
(some (List.length h23)).bind fun na26 =>
(some (h23 ++ [.inl (5, [.null, .int 0, .int 0, .int 0])])).bind fun h25 =>
(fX5_init h25 na26).bind fun r27 =>
(qx_ r27 1 5 x24 0 na26).bind fun h28 =>
(gq_ h28 a0 7 1).bind fun x29 =>
(some (List.length h28)).bind fun na31 =>
(some (h28 ++ [.inl (5, [.null, .int 0, .int 0, .int 0])])).bind fun h30 =>
(fX5_init h30 na31).bind fun r32 =>
(qx_ r32 1 5 x29 1 na31).bind fun h33 =>
(gq_ h33 a0 7 1).bind fun x34 =>
(some (List.length h33)).bind fun na36 =>
(some (h33 ++ [.inl (5, [.null, .int 0, .int 0, .int 0])])).bind fun h35 =>
(fX5_init h35 na36).bind fun r37 =>
(qx_ r37 1 5 x34 2 na36).bind fun h38 =>
(gq_ h38 a0 7 1).bind fun x39 =>
(some (List.length h38)).bind fun na41 =>
(some (h38 ++ [.inl (5, [.null, .int 0, .int 0, .int 0])])).bind fun h40 =>
(fX5_init h40 na41).bind fun r42 =>
(qx_ r42 1 5 x39 3 na41).bind fun h43 =>
some h43
set_option maxRecDepth 20000 in
set_option maxHeartbeats 4000000 in
theorem tX8_init (l : Launch) {h : hp_H} {a0 : Nat} {r : hp_H} (hf : fX8_init h a0 = some r) {Q : Option Value → hp_H → Prop} (kr : Q (none) r) : hp_G l mX8_init none 4 true Q true 39 467 0 [(0, .ref a0)] [] h := by
  unfold fX8_init at hf
  refine hp_aload_n 0 dX8_init_0 rfl rfl (?_ : hp_G _ _ _ _ _ _ _ _ _ 1 _ _ _)
  refine hp_objInit (List.forall_mem_cons.mpr ⟨wd_92, (List.forall_mem_cons.mpr ⟨wd_93, (List.forall_mem_cons.mpr ⟨wd_94, (fun _ h => absurd h List.not_mem_nil)⟩)⟩)⟩) (by decide) dX8_init_1 (?_ : hp_G _ _ _ _ _ _ _ _ _ 4 _ _ _)
  refine hp_aload_n 0 dX8_init_4 rfl rfl (?_ : hp_G _ _ _ _ _ _ _ _ _ 5 _ _ _)
  replace hf := ob_ hf
  obtain ⟨na2, ena2, hf⟩ := hf
  replace hf := ob_ hf
  obtain ⟨h1, eh1, hf⟩ := hf
  refine nnX8_9 (k := 38) (n := 465) rfl dX8_init_5 (hp_nh ena2 eh1 ?_)
  refine hp_dup dX8_init_8 rfl (?_ : hp_G _ _ _ _ _ _ _ _ _ 9 _ _ _)
  replace hf := ob_ hf
  obtain ⟨r3, er3, hf⟩ := hf
  refine clX8_11 (k := 31) (n := 435) (as := []) (st := [.ref na2, .ref a0]) rfl (kX7_init l er3) rfl (by decide) (Nat.le_of_ble_eq_true rfl) dX8_init_9 rfl (?_ : hp_G _ _ _ _ _ _ _ _ _ 12 _ _ _)
  replace hf := ob_ hf
  obtain ⟨h4, eh4, hf⟩ := hf
  refine fpX8_12 rfl rfl dX8_init_12 eh4 (?_ : hp_G _ _ _ _ _ _ _ _ _ 15 _ _ _)
  refine hp_aload_n 0 dX8_init_15 rfl rfl (?_ : hp_G _ _ _ _ _ _ _ _ _ 16 _ _ _)
  refine hp_iconst (v := 4) dX8_init_16 ic_4 (?_ : hp_G _ _ _ _ _ _ _ _ _ 17 _ _ _)
  replace hf := ob_ hf
  obtain ⟨na5, ena5, hf⟩ := hf
  replace hf := ob_ hf
  obtain ⟨h6, eh6, hf⟩ := hf
  refine hp_newref (C := RX5) (t := 1) (k := 30) (n := 431) (N := 4) (Or.inr ⟨rfl, rfl⟩) wd_148 (by decide) (by decide) (by decide) dX8_init_17 (hp_nh ena5 eh6 ?_)
  replace hf := ob_ hf
  obtain ⟨h7, eh7, hf⟩ := hf
  refine fpX8_20 rfl rfl dX8_init_20 eh7 (?_ : hp_G _ _ _ _ _ _ _ _ _ 23 _ _ _)
  refine hp_aload_n 0 dX8_init_23 rfl rfl (?_ : hp_G _ _ _ _ _ _ _ _ _ 24 _ _ _)
  replace hf := ob_ hf
  obtain ⟨na9, ena9, hf⟩ := hf
  replace hf := ob_ hf
  obtain ⟨h8, eh8, hf⟩ := hf
  refine nnX8_24 (k := 29) (n := 426) rfl dX8_init_24 (hp_nh ena9 eh8 ?_)
  refine hp_dup dX8_init_27 rfl (?_ : hp_G _ _ _ _ _ _ _ _ _ 28 _ _ _)
  replace hf := ob_ hf
  obtain ⟨r10, er10, hf⟩ := hf
  refine clX8_26 (k := 25) (n := 394) (as := []) (st := [.ref na9, .ref a0]) rfl (kX0_init l er10) rfl (by decide) (Nat.le_of_ble_eq_true rfl) dX8_init_28 rfl (?_ : hp_G _ _ _ _ _ _ _ _ _ 31 _ _ _)
  replace hf := ob_ hf
  obtain ⟨h11, eh11, hf⟩ := hf
  refine fpX8_27 rfl rfl dX8_init_31 eh11 (?_ : hp_G _ _ _ _ _ _ _ _ _ 34 _ _ _)
  refine hp_aload_n 0 dX8_init_34 rfl rfl (?_ : hp_G _ _ _ _ _ _ _ _ _ 35 _ _ _)
  replace hf := ob_ hf
  obtain ⟨na13, ena13, hf⟩ := hf
  replace hf := ob_ hf
  obtain ⟨h12, eh12, hf⟩ := hf
  refine nnX8_31 (k := 24) (n := 389) rfl dX8_init_35 (hp_nh ena13 eh12 ?_)
  refine hp_dup dX8_init_38 rfl (?_ : hp_G _ _ _ _ _ _ _ _ _ 39 _ _ _)
  replace hf := ob_ hf
  obtain ⟨r14, er14, hf⟩ := hf
  refine clX8_33 (k := 15) (n := 351) (as := []) (st := [.ref na13, .ref a0]) rfl (kX4_init l er14) rfl (by decide) (Nat.le_of_ble_eq_true rfl) dX8_init_39 rfl (?_ : hp_G _ _ _ _ _ _ _ _ _ 42 _ _ _)
  replace hf := ob_ hf
  obtain ⟨h15, eh15, hf⟩ := hf
  refine fpX8_34 rfl rfl dX8_init_42 eh15 (?_ : hp_G _ _ _ _ _ _ _ _ _ 45 _ _ _)
  refine hp_aload_n 0 dX8_init_45 rfl rfl (?_ : hp_G _ _ _ _ _ _ _ _ _ 46 _ _ _)
  replace hf := ob_ hf
  obtain ⟨na17, ena17, hf⟩ := hf
  replace hf := ob_ hf
  obtain ⟨h16, eh16, hf⟩ := hf
  refine nnX8_38 (k := 14) (n := 348) rfl dX8_init_46 (hp_nh ena17 eh16 ?_)
  refine hp_dup dX8_init_49 rfl (?_ : hp_G _ _ _ _ _ _ _ _ _ 50 _ _ _)
  replace hf := ob_ hf
  obtain ⟨r18, er18, hf⟩ := hf
  refine clX8_40 (k := 12) (n := 336) (as := []) (st := [.ref na17, .ref a0]) rfl (kX1_init l er18) rfl (by decide) (Nat.le_of_ble_eq_true rfl) dX8_init_50 rfl (?_ : hp_G _ _ _ _ _ _ _ _ _ 53 _ _ _)
  replace hf := ob_ hf
  obtain ⟨h19, eh19, hf⟩ := hf
  refine fpX8_41 rfl rfl dX8_init_53 eh19 (?_ : hp_G _ _ _ _ _ _ _ _ _ 56 _ _ _)
  refine hp_aload_n 0 dX8_init_56 rfl rfl (?_ : hp_G _ _ _ _ _ _ _ _ _ 57 _ _ _)
  replace hf := ob_ hf
  obtain ⟨na21, ena21, hf⟩ := hf
  replace hf := ob_ hf
  obtain ⟨h20, eh20, hf⟩ := hf
  refine nnX8_45 (k := 11) (n := 332) rfl dX8_init_57 (hp_nh ena21 eh20 ?_)
  refine hp_dup dX8_init_60 rfl (?_ : hp_G _ _ _ _ _ _ _ _ _ 61 _ _ _)
  replace hf := ob_ hf
  obtain ⟨r22, er22, hf⟩ := hf
  refine clX8_47 (k := 8) (n := 256) (as := []) (st := [.ref na21, .ref a0]) rfl (kX3_init l er22) rfl (by decide) (Nat.le_of_ble_eq_true rfl) dX8_init_61 rfl (?_ : hp_G _ _ _ _ _ _ _ _ _ 64 _ _ _)
  replace hf := ob_ hf
  obtain ⟨h23, eh23, hf⟩ := hf
  refine fpX8_48 rfl rfl dX8_init_64 eh23 (?_ : hp_G _ _ _ _ _ _ _ _ _ 67 _ _ _)
  refine hp_iconst (v := 0) dX8_init_67 ic_0 (?_ : hp_G _ _ _ _ _ _ _ _ _ 68 _ _ _)
  refine hp_istore_n (lv' := [(1, .int 0), (0, .ref a0)]) dX8_init_68 rfl (Nat.le_of_ble_eq_true rfl) rfl (?_ : hp_G _ _ _ _ _ _ _ _ _ 69 _ _ _)
  refine hp_iload_n 0 dX8_init_69 rfl rfl (?_ : hp_G _ _ _ _ _ _ _ _ _ 70 _ _ _)
  refine hp_iconst (v := 4) dX8_init_70 ic_4 (?_ : hp_G _ _ _ _ _ _ _ _ _ 71 _ _ _)
  refine hp_icmp_ge (tgt := 93) dX8_init_71 rfl (fun c => absurd c (by decide)) (fun _ => (?_ : hp_G _ _ _ _ _ _ _ _ _ 74 _ _ _))
  refine hp_aload_n 1 dX8_init_74 rfl rfl (?_ : hp_G _ _ _ _ _ _ _ _ _ 75 _ _ _)
  replace hf := ob_ hf
  obtain ⟨x24, ex24, hf⟩ := hf
  refine fgX8_20 rfl dX8_init_75 ex24 (?_ : hp_G _ _ _ _ _ _ _ _ _ 78 _ _ _)
  refine hp_iload_n 0 dX8_init_78 rfl rfl (?_ : hp_G _ _ _ _ _ _ _ _ _ 79 _ _ _)
  replace hf := ob_ hf
  obtain ⟨na26, ena26, hf⟩ := hf
  replace hf := ob_ hf
  obtain ⟨h25, eh25, hf⟩ := hf
  refine nnX8_18 (k := 7) (n := 252) rfl dX8_init_79 (hp_nh ena26 eh25 ?_)
  refine hp_dup dX8_init_82 rfl (?_ : hp_G _ _ _ _ _ _ _ _ _ 83 _ _ _)
  replace hf := ob_ hf
  obtain ⟨r27, er27, hf⟩ := hf
  refine clX8_52 (k := 6) (n := 192) (as := []) (st := [.ref na26, .int 0, .ref x24]) rfl (kX5_init l er27) rfl (by decide) (Nat.le_of_ble_eq_true rfl) dX8_init_83 rfl (?_ : hp_G _ _ _ _ _ _ _ _ _ 86 _ _ _)
  replace hf := ob_ hf
  obtain ⟨h28, eh28, hf⟩ := hf
  refine hp_aastore (t := 1) (ci := 5) rfl (Or.inr ⟨rfl, rfl⟩) dX8_init_86 eh28 (?_ : hp_G _ _ _ _ _ _ _ _ _ 87 _ _ _)
  refine hp_iinc (v := 1) (lv' := [(1, .int 1), (0, .ref a0)]) 0 dX8_init_87 rfl (by decide) (Nat.le_of_ble_eq_true rfl) rfl (?_ : hp_G _ _ _ _ _ _ _ _ _ 90 _ _ _)
  refine hp_goto (tgt := 69) dX8_init_90 rfl (?_ : hp_G _ _ _ _ _ _ _ _ _ 69 _ _ _)
  refine hp_iload_n 0 dX8_init_69 rfl rfl (?_ : hp_G _ _ _ _ _ _ _ _ _ 70 _ _ _)
  refine hp_iconst (v := 4) dX8_init_70 ic_4 (?_ : hp_G _ _ _ _ _ _ _ _ _ 71 _ _ _)
  refine hp_icmp_ge (tgt := 93) dX8_init_71 rfl (fun c => absurd c (by decide)) (fun _ => (?_ : hp_G _ _ _ _ _ _ _ _ _ 74 _ _ _))
  refine hp_aload_n 1 dX8_init_74 rfl rfl (?_ : hp_G _ _ _ _ _ _ _ _ _ 75 _ _ _)
  replace hf := ob_ hf
  obtain ⟨x29, ex29, hf⟩ := hf
  refine fgX8_20 rfl dX8_init_75 ex29 (?_ : hp_G _ _ _ _ _ _ _ _ _ 78 _ _ _)
  refine hp_iload_n 0 dX8_init_78 rfl rfl (?_ : hp_G _ _ _ _ _ _ _ _ _ 79 _ _ _)
  replace hf := ob_ hf
  obtain ⟨na31, ena31, hf⟩ := hf
  replace hf := ob_ hf
  obtain ⟨h30, eh30, hf⟩ := hf
  refine nnX8_18 (k := 5) (n := 188) rfl dX8_init_79 (hp_nh ena31 eh30 ?_)
  refine hp_dup dX8_init_82 rfl (?_ : hp_G _ _ _ _ _ _ _ _ _ 83 _ _ _)
  replace hf := ob_ hf
  obtain ⟨r32, er32, hf⟩ := hf
  refine clX8_52 (k := 4) (n := 128) (as := []) (st := [.ref na31, .int 1, .ref x29]) rfl (kX5_init l er32) rfl (by decide) (Nat.le_of_ble_eq_true rfl) dX8_init_83 rfl (?_ : hp_G _ _ _ _ _ _ _ _ _ 86 _ _ _)
  replace hf := ob_ hf
  obtain ⟨h33, eh33, hf⟩ := hf
  refine hp_aastore (t := 1) (ci := 5) rfl (Or.inr ⟨rfl, rfl⟩) dX8_init_86 eh33 (?_ : hp_G _ _ _ _ _ _ _ _ _ 87 _ _ _)
  refine hp_iinc (v := 2) (lv' := [(1, .int 2), (0, .ref a0)]) 0 dX8_init_87 rfl (by decide) (Nat.le_of_ble_eq_true rfl) rfl (?_ : hp_G _ _ _ _ _ _ _ _ _ 90 _ _ _)
  refine hp_goto (tgt := 69) dX8_init_90 rfl (?_ : hp_G _ _ _ _ _ _ _ _ _ 69 _ _ _)
  refine hp_iload_n 0 dX8_init_69 rfl rfl (?_ : hp_G _ _ _ _ _ _ _ _ _ 70 _ _ _)
  refine hp_iconst (v := 4) dX8_init_70 ic_4 (?_ : hp_G _ _ _ _ _ _ _ _ _ 71 _ _ _)
  refine hp_icmp_ge (tgt := 93) dX8_init_71 rfl (fun c => absurd c (by decide)) (fun _ => (?_ : hp_G _ _ _ _ _ _ _ _ _ 74 _ _ _))
  refine hp_aload_n 1 dX8_init_74 rfl rfl (?_ : hp_G _ _ _ _ _ _ _ _ _ 75 _ _ _)
  replace hf := ob_ hf
  obtain ⟨x34, ex34, hf⟩ := hf
  refine fgX8_20 rfl dX8_init_75 ex34 (?_ : hp_G _ _ _ _ _ _ _ _ _ 78 _ _ _)
  refine hp_iload_n 0 dX8_init_78 rfl rfl (?_ : hp_G _ _ _ _ _ _ _ _ _ 79 _ _ _)
  replace hf := ob_ hf
  obtain ⟨na36, ena36, hf⟩ := hf
  replace hf := ob_ hf
  obtain ⟨h35, eh35, hf⟩ := hf
  refine nnX8_18 (k := 3) (n := 124) rfl dX8_init_79 (hp_nh ena36 eh35 ?_)
  refine hp_dup dX8_init_82 rfl (?_ : hp_G _ _ _ _ _ _ _ _ _ 83 _ _ _)
  replace hf := ob_ hf
  obtain ⟨r37, er37, hf⟩ := hf
  refine clX8_52 (k := 2) (n := 64) (as := []) (st := [.ref na36, .int 2, .ref x34]) rfl (kX5_init l er37) rfl (by decide) (Nat.le_of_ble_eq_true rfl) dX8_init_83 rfl (?_ : hp_G _ _ _ _ _ _ _ _ _ 86 _ _ _)
  replace hf := ob_ hf
  obtain ⟨h38, eh38, hf⟩ := hf
  refine hp_aastore (t := 1) (ci := 5) rfl (Or.inr ⟨rfl, rfl⟩) dX8_init_86 eh38 (?_ : hp_G _ _ _ _ _ _ _ _ _ 87 _ _ _)
  refine hp_iinc (v := 3) (lv' := [(1, .int 3), (0, .ref a0)]) 0 dX8_init_87 rfl (by decide) (Nat.le_of_ble_eq_true rfl) rfl (?_ : hp_G _ _ _ _ _ _ _ _ _ 90 _ _ _)
  refine hp_goto (tgt := 69) dX8_init_90 rfl (?_ : hp_G _ _ _ _ _ _ _ _ _ 69 _ _ _)
  refine hp_iload_n 0 dX8_init_69 rfl rfl (?_ : hp_G _ _ _ _ _ _ _ _ _ 70 _ _ _)
  refine hp_iconst (v := 4) dX8_init_70 ic_4 (?_ : hp_G _ _ _ _ _ _ _ _ _ 71 _ _ _)
  refine hp_icmp_ge (tgt := 93) dX8_init_71 rfl (fun c => absurd c (by decide)) (fun _ => (?_ : hp_G _ _ _ _ _ _ _ _ _ 74 _ _ _))
  refine hp_aload_n 1 dX8_init_74 rfl rfl (?_ : hp_G _ _ _ _ _ _ _ _ _ 75 _ _ _)
  replace hf := ob_ hf
  obtain ⟨x39, ex39, hf⟩ := hf
  refine fgX8_20 rfl dX8_init_75 ex39 (?_ : hp_G _ _ _ _ _ _ _ _ _ 78 _ _ _)
  refine hp_iload_n 0 dX8_init_78 rfl rfl (?_ : hp_G _ _ _ _ _ _ _ _ _ 79 _ _ _)
  replace hf := ob_ hf
  obtain ⟨na41, ena41, hf⟩ := hf
  replace hf := ob_ hf
  obtain ⟨h40, eh40, hf⟩ := hf
  refine nnX8_18 (k := 1) (n := 60) rfl dX8_init_79 (hp_nh ena41 eh40 ?_)
  refine hp_dup dX8_init_82 rfl (?_ : hp_G _ _ _ _ _ _ _ _ _ 83 _ _ _)
  replace hf := ob_ hf
  obtain ⟨r42, er42, hf⟩ := hf
  refine clX8_52 (k := 0) (n := 0) (as := []) (st := [.ref na41, .int 3, .ref x39]) rfl (kX5_init l er42) rfl (by decide) (Nat.le_of_ble_eq_true rfl) dX8_init_83 rfl (?_ : hp_G _ _ _ _ _ _ _ _ _ 86 _ _ _)
  replace hf := ob_ hf
  obtain ⟨h43, eh43, hf⟩ := hf
  refine hp_aastore (t := 1) (ci := 5) rfl (Or.inr ⟨rfl, rfl⟩) dX8_init_86 eh43 (?_ : hp_G _ _ _ _ _ _ _ _ _ 87 _ _ _)
  refine hp_iinc (v := 4) (lv' := [(1, .int 4), (0, .ref a0)]) 0 dX8_init_87 rfl (by decide) (Nat.le_of_ble_eq_true rfl) rfl (?_ : hp_G _ _ _ _ _ _ _ _ _ 90 _ _ _)
  refine hp_goto (tgt := 69) dX8_init_90 rfl (?_ : hp_G _ _ _ _ _ _ _ _ _ 69 _ _ _)
  refine hp_iload_n 0 dX8_init_69 rfl rfl (?_ : hp_G _ _ _ _ _ _ _ _ _ 70 _ _ _)
  refine hp_iconst (v := 4) dX8_init_70 ic_4 (?_ : hp_G _ _ _ _ _ _ _ _ _ 71 _ _ _)
  refine hp_icmp_ge (tgt := 93) dX8_init_71 rfl (fun _ => ?_) (fun c => absurd c (by decide))
  obtain rfl := Option.some.inj hf
  exact hp_vret kr (fun z => z) rfl dX8_init_93
theorem kX8_init (l : Launch) {h : hp_H} {a0 : Nat} {r : hp_H} (hf : fX8_init h a0 = some r) : hp_Cn l yX8_init mX8_init 4 true 39 467 [.ref a0] h (fun v h2 => none = v ∧ r = h2) :=
  hp_of (by decide) rfl (fun z => by rfl) (Nat.le_of_ble_eq_true rfl) (tX8_init l hf ⟨rfl, rfl⟩)
noncomputable def fX9_init (h : hp_H) (a0 : Nat) : Option hp_H :=
(some (List.length h)).bind fun na1 =>
(some (h ++ [.inr (.inl (4, fun _ => 0))])).bind fun h2 =>
(ax_ h2 na1 0 (-9)).bind fun h3 =>
(ax_ h3 na1 1 (-9)).bind fun h4 =>
(ax_ h4 na1 2 (-9)).bind fun h5 =>
(ax_ h5 na1 3 (-9)).bind fun h6 =>
(pq_ h6 a0 8 2 na1).bind fun h7 =>
(some (List.length h7)).bind fun na8 =>
(some (h7 ++ [.inr (.inl (4, fun _ => 0))])).bind fun h9 =>
(pq_ h9 a0 8 3 na8).bind fun h10 =>
(some (List.length h10)).bind fun na11 =>
(some (h10 ++ [.inr (.inl (240, fun _ => 0))])).bind fun h12 =>
(pq_ h12 a0 8 4 na11).bind fun h13 =>
(some (List.length h13)).bind fun na14 =>
(some (h13 ++ [.inr (.inl (6, fun _ => 0))])).bind fun h15 =>
(pq_ h15 a0 8 8 na14).bind fun h16 =>
(some (List.length h16)).bind fun na17 =>
(some (h16 ++ [.inr (.inl (6, fun _ => 0))])).bind fun h18 =>
(pq_ h18 a0 8 9 na17).bind fun h19 =>
(some (List.length h19)).bind fun na20 =>
(some (h19 ++ [.inr (.inl (6, fun _ => 0))])).bind fun h21 =>
(pq_ h21 a0 8 10 na20).bind fun h22 =>
(some (List.length h22)).bind fun na23 =>
(some (h22 ++ [.inr (.inl (18, fun _ => 0))])).bind fun h24 =>
(pq_ h24 a0 8 13 na23).bind fun h25 =>
(some (List.length h25)).bind fun na26 =>
(some (h25 ++ [.inr (.inl (6, fun _ => 0))])).bind fun h27 =>
(pq_ h27 a0 8 14 na26).bind fun h28 =>
(some (List.length h28)).bind fun na29 =>
(some (h28 ++ [.inr (.inl (6, fun _ => 0))])).bind fun h30 =>
(pq_ h30 a0 8 15 na29).bind fun h31 =>
(some (List.length h31)).bind fun na32 =>
(some (h31 ++ [.inr (.inl (6, fun _ => 0))])).bind fun h33 =>
(pq_ h33 a0 8 18 na32).bind fun h34 =>
(some (List.length h34)).bind fun na35 =>
(some (h34 ++ [.inr (.inl (6, fun _ => 0))])).bind fun h36 =>
(pq_ h36 a0 8 19 na35).bind fun h37 =>
(some (List.length h37)).bind fun na38 =>
(some (h37 ++ [.inr (.inl (6, fun _ => 0))])).bind fun h39 =>
(pq_ h39 a0 8 22 na38).bind fun h40 =>
(some (List.length h40)).bind fun na41 =>
(some (h40 ++ [.inr (.inl (6, fun _ => 0))])).bind fun h42 =>
(pq_ h42 a0 8 23 na41).bind fun h43 =>
(some (List.length h43)).bind fun na44 =>
(some (h43 ++ [.inr (.inl (8, fun _ => 0))])).bind fun h45 =>
(pq_ h45 a0 8 25 na44).bind fun h46 =>
(some (List.length h46)).bind fun na47 =>
(some (h46 ++ [.inr (.inl (8, fun _ => 0))])).bind fun h48 =>
(pq_ h48 a0 8 26 na47).bind fun h49 =>
(some (List.length h49)).bind fun na50 =>
(some (h49 ++ [.inr (.inl (8, fun _ => 0))])).bind fun h51 =>
(pq_ h51 a0 8 27 na50).bind fun h52 =>
(some (List.length h52)).bind fun na53 =>
(some (h52 ++ [.inr (.inl (8, fun _ => 0))])).bind fun h54 =>
(pq_ h54 a0 8 28 na53).bind fun h55 =>
some h55
set_option maxRecDepth 20000 in
set_option maxHeartbeats 4000000 in
theorem tX9_init (l : Launch) {h : hp_H} {a0 : Nat} {r : hp_H} (hf : fX9_init h a0 = some r) {Q : Option Value → hp_H → Prop} (kr : Q (none) r) : hp_G l mX9_init none 1 true Q true 17 352 0 [(0, .ref a0)] [] h := by
  unfold fX9_init at hf
  refine hp_aload_n 0 dX9_init_0 rfl rfl (?_ : hp_G _ _ _ _ _ _ _ _ _ 1 _ _ _)
  refine hp_objInit (List.forall_mem_cons.mpr ⟨wd_670, (List.forall_mem_cons.mpr ⟨wd_93, (List.forall_mem_cons.mpr ⟨wd_94, (fun _ h => absurd h List.not_mem_nil)⟩)⟩)⟩) (by decide) dX9_init_1 (?_ : hp_G _ _ _ _ _ _ _ _ _ 4 _ _ _)
  refine hp_aload_n 0 dX9_init_4 rfl rfl (?_ : hp_G _ _ _ _ _ _ _ _ _ 5 _ _ _)
  refine hp_iconst (v := 4) dX9_init_5 ic_4 (?_ : hp_G _ _ _ _ _ _ _ _ _ 6 _ _ _)
  replace hf := ob_ hf
  obtain ⟨na1, ena1, hf⟩ := hf
  replace hf := ob_ hf
  obtain ⟨h2, eh2, hf⟩ := hf
  refine hp_newarr (k := 16) (n := 348) (N := 4) wd_173 (by decide) (by decide) (by decide) dX9_init_6 (hp_nh ena1 eh2 ?_)
  refine hp_dup dX9_init_8 rfl (?_ : hp_G _ _ _ _ _ _ _ _ _ 9 _ _ _)
  refine hp_iconst (v := 0) dX9_init_9 ic_0 (?_ : hp_G _ _ _ _ _ _ _ _ _ 10 _ _ _)
  refine hp_bipush (v := (-9)) dX9_init_10 bi_m9 (?_ : hp_G _ _ _ _ _ _ _ _ _ 12 _ _ _)
  replace hf := ob_ hf
  obtain ⟨h3, eh3, hf⟩ := hf
  refine hp_iastore dX9_init_12 eh3 (?_ : hp_G _ _ _ _ _ _ _ _ _ 13 _ _ _)
  refine hp_dup dX9_init_13 rfl (?_ : hp_G _ _ _ _ _ _ _ _ _ 14 _ _ _)
  refine hp_iconst (v := 1) dX9_init_14 ic_1 (?_ : hp_G _ _ _ _ _ _ _ _ _ 15 _ _ _)
  refine hp_bipush (v := (-9)) dX9_init_15 bi_m9 (?_ : hp_G _ _ _ _ _ _ _ _ _ 17 _ _ _)
  replace hf := ob_ hf
  obtain ⟨h4, eh4, hf⟩ := hf
  refine hp_iastore dX9_init_17 eh4 (?_ : hp_G _ _ _ _ _ _ _ _ _ 18 _ _ _)
  refine hp_dup dX9_init_18 rfl (?_ : hp_G _ _ _ _ _ _ _ _ _ 19 _ _ _)
  refine hp_iconst (v := 2) dX9_init_19 ic_2 (?_ : hp_G _ _ _ _ _ _ _ _ _ 20 _ _ _)
  refine hp_bipush (v := (-9)) dX9_init_20 bi_m9 (?_ : hp_G _ _ _ _ _ _ _ _ _ 22 _ _ _)
  replace hf := ob_ hf
  obtain ⟨h5, eh5, hf⟩ := hf
  refine hp_iastore dX9_init_22 eh5 (?_ : hp_G _ _ _ _ _ _ _ _ _ 23 _ _ _)
  refine hp_dup dX9_init_23 rfl (?_ : hp_G _ _ _ _ _ _ _ _ _ 24 _ _ _)
  refine hp_iconst (v := 3) dX9_init_24 ic_3 (?_ : hp_G _ _ _ _ _ _ _ _ _ 25 _ _ _)
  refine hp_bipush (v := (-9)) dX9_init_25 bi_m9 (?_ : hp_G _ _ _ _ _ _ _ _ _ 27 _ _ _)
  replace hf := ob_ hf
  obtain ⟨h6, eh6, hf⟩ := hf
  refine hp_iastore dX9_init_27 eh6 (?_ : hp_G _ _ _ _ _ _ _ _ _ 28 _ _ _)
  replace hf := ob_ hf
  obtain ⟨h7, eh7, hf⟩ := hf
  refine fpX9_9 rfl rfl dX9_init_28 eh7 (?_ : hp_G _ _ _ _ _ _ _ _ _ 31 _ _ _)
  refine hp_aload_n 0 dX9_init_31 rfl rfl (?_ : hp_G _ _ _ _ _ _ _ _ _ 32 _ _ _)
  refine hp_iconst (v := 4) dX9_init_32 ic_4 (?_ : hp_G _ _ _ _ _ _ _ _ _ 33 _ _ _)
  replace hf := ob_ hf
  obtain ⟨na8, ena8, hf⟩ := hf
  replace hf := ob_ hf
  obtain ⟨h9, eh9, hf⟩ := hf
  refine hp_newarr (k := 15) (n := 344) (N := 4) wd_173 (by decide) (by decide) (by decide) dX9_init_33 (hp_nh ena8 eh9 ?_)
  replace hf := ob_ hf
  obtain ⟨h10, eh10, hf⟩ := hf
  refine fpX9_13 rfl rfl dX9_init_35 eh10 (?_ : hp_G _ _ _ _ _ _ _ _ _ 38 _ _ _)
  refine hp_aload_n 0 dX9_init_38 rfl rfl (?_ : hp_G _ _ _ _ _ _ _ _ _ 39 _ _ _)
  refine hp_sipush (v := 240) dX9_init_39 si_240 (?_ : hp_G _ _ _ _ _ _ _ _ _ 42 _ _ _)
  replace hf := ob_ hf
  obtain ⟨na11, ena11, hf⟩ := hf
  replace hf := ob_ hf
  obtain ⟨h12, eh12, hf⟩ := hf
  refine hp_newarr (k := 14) (n := 104) (N := 240) wd_173 (by decide) (by decide) (by decide) dX9_init_42 (hp_nh ena11 eh12 ?_)
  replace hf := ob_ hf
  obtain ⟨h13, eh13, hf⟩ := hf
  refine fpX9_16 rfl rfl dX9_init_44 eh13 (?_ : hp_G _ _ _ _ _ _ _ _ _ 47 _ _ _)
  refine hp_aload_n 0 dX9_init_47 rfl rfl (?_ : hp_G _ _ _ _ _ _ _ _ _ 48 _ _ _)
  refine hp_bipush (v := 6) dX9_init_48 bi_6 (?_ : hp_G _ _ _ _ _ _ _ _ _ 50 _ _ _)
  replace hf := ob_ hf
  obtain ⟨na14, ena14, hf⟩ := hf
  replace hf := ob_ hf
  obtain ⟨h15, eh15, hf⟩ := hf
  refine hp_newarr (k := 13) (n := 98) (N := 6) wd_173 (by decide) (by decide) (by decide) dX9_init_50 (hp_nh ena14 eh15 ?_)
  replace hf := ob_ hf
  obtain ⟨h16, eh16, hf⟩ := hf
  refine fpX9_19 rfl rfl dX9_init_52 eh16 (?_ : hp_G _ _ _ _ _ _ _ _ _ 55 _ _ _)
  refine hp_aload_n 0 dX9_init_55 rfl rfl (?_ : hp_G _ _ _ _ _ _ _ _ _ 56 _ _ _)
  refine hp_bipush (v := 6) dX9_init_56 bi_6 (?_ : hp_G _ _ _ _ _ _ _ _ _ 58 _ _ _)
  replace hf := ob_ hf
  obtain ⟨na17, ena17, hf⟩ := hf
  replace hf := ob_ hf
  obtain ⟨h18, eh18, hf⟩ := hf
  refine hp_newarr (k := 12) (n := 92) (N := 6) wd_173 (by decide) (by decide) (by decide) dX9_init_58 (hp_nh ena17 eh18 ?_)
  replace hf := ob_ hf
  obtain ⟨h19, eh19, hf⟩ := hf
  refine fpX9_22 rfl rfl dX9_init_60 eh19 (?_ : hp_G _ _ _ _ _ _ _ _ _ 63 _ _ _)
  refine hp_aload_n 0 dX9_init_63 rfl rfl (?_ : hp_G _ _ _ _ _ _ _ _ _ 64 _ _ _)
  refine hp_bipush (v := 6) dX9_init_64 bi_6 (?_ : hp_G _ _ _ _ _ _ _ _ _ 66 _ _ _)
  replace hf := ob_ hf
  obtain ⟨na20, ena20, hf⟩ := hf
  replace hf := ob_ hf
  obtain ⟨h21, eh21, hf⟩ := hf
  refine hp_newarr (k := 11) (n := 86) (N := 6) wd_173 (by decide) (by decide) (by decide) dX9_init_66 (hp_nh ena20 eh21 ?_)
  replace hf := ob_ hf
  obtain ⟨h22, eh22, hf⟩ := hf
  refine fpX9_25 rfl rfl dX9_init_68 eh22 (?_ : hp_G _ _ _ _ _ _ _ _ _ 71 _ _ _)
  refine hp_aload_n 0 dX9_init_71 rfl rfl (?_ : hp_G _ _ _ _ _ _ _ _ _ 72 _ _ _)
  refine hp_bipush (v := 18) dX9_init_72 bi_18 (?_ : hp_G _ _ _ _ _ _ _ _ _ 74 _ _ _)
  replace hf := ob_ hf
  obtain ⟨na23, ena23, hf⟩ := hf
  replace hf := ob_ hf
  obtain ⟨h24, eh24, hf⟩ := hf
  refine hp_newarr (k := 10) (n := 68) (N := 18) wd_173 (by decide) (by decide) (by decide) dX9_init_74 (hp_nh ena23 eh24 ?_)
  replace hf := ob_ hf
  obtain ⟨h25, eh25, hf⟩ := hf
  refine fpX9_28 rfl rfl dX9_init_76 eh25 (?_ : hp_G _ _ _ _ _ _ _ _ _ 79 _ _ _)
  refine hp_aload_n 0 dX9_init_79 rfl rfl (?_ : hp_G _ _ _ _ _ _ _ _ _ 80 _ _ _)
  refine hp_bipush (v := 6) dX9_init_80 bi_6 (?_ : hp_G _ _ _ _ _ _ _ _ _ 82 _ _ _)
  replace hf := ob_ hf
  obtain ⟨na26, ena26, hf⟩ := hf
  replace hf := ob_ hf
  obtain ⟨h27, eh27, hf⟩ := hf
  refine hp_newarr (k := 9) (n := 62) (N := 6) wd_173 (by decide) (by decide) (by decide) dX9_init_82 (hp_nh ena26 eh27 ?_)
  replace hf := ob_ hf
  obtain ⟨h28, eh28, hf⟩ := hf
  refine fpX9_31 rfl rfl dX9_init_84 eh28 (?_ : hp_G _ _ _ _ _ _ _ _ _ 87 _ _ _)
  refine hp_aload_n 0 dX9_init_87 rfl rfl (?_ : hp_G _ _ _ _ _ _ _ _ _ 88 _ _ _)
  refine hp_bipush (v := 6) dX9_init_88 bi_6 (?_ : hp_G _ _ _ _ _ _ _ _ _ 90 _ _ _)
  replace hf := ob_ hf
  obtain ⟨na29, ena29, hf⟩ := hf
  replace hf := ob_ hf
  obtain ⟨h30, eh30, hf⟩ := hf
  refine hp_newarr (k := 8) (n := 56) (N := 6) wd_173 (by decide) (by decide) (by decide) dX9_init_90 (hp_nh ena29 eh30 ?_)
  replace hf := ob_ hf
  obtain ⟨h31, eh31, hf⟩ := hf
  refine fpX9_34 rfl rfl dX9_init_92 eh31 (?_ : hp_G _ _ _ _ _ _ _ _ _ 95 _ _ _)
  refine hp_aload_n 0 dX9_init_95 rfl rfl (?_ : hp_G _ _ _ _ _ _ _ _ _ 96 _ _ _)
  refine hp_bipush (v := 6) dX9_init_96 bi_6 (?_ : hp_G _ _ _ _ _ _ _ _ _ 98 _ _ _)
  replace hf := ob_ hf
  obtain ⟨na32, ena32, hf⟩ := hf
  replace hf := ob_ hf
  obtain ⟨h33, eh33, hf⟩ := hf
  refine hp_newarr (k := 7) (n := 50) (N := 6) wd_173 (by decide) (by decide) (by decide) dX9_init_98 (hp_nh ena32 eh33 ?_)
  replace hf := ob_ hf
  obtain ⟨h34, eh34, hf⟩ := hf
  refine fpX9_37 rfl rfl dX9_init_100 eh34 (?_ : hp_G _ _ _ _ _ _ _ _ _ 103 _ _ _)
  refine hp_aload_n 0 dX9_init_103 rfl rfl (?_ : hp_G _ _ _ _ _ _ _ _ _ 104 _ _ _)
  refine hp_bipush (v := 6) dX9_init_104 bi_6 (?_ : hp_G _ _ _ _ _ _ _ _ _ 106 _ _ _)
  replace hf := ob_ hf
  obtain ⟨na35, ena35, hf⟩ := hf
  replace hf := ob_ hf
  obtain ⟨h36, eh36, hf⟩ := hf
  refine hp_newarr (k := 6) (n := 44) (N := 6) wd_173 (by decide) (by decide) (by decide) dX9_init_106 (hp_nh ena35 eh36 ?_)
  replace hf := ob_ hf
  obtain ⟨h37, eh37, hf⟩ := hf
  refine fpX9_40 rfl rfl dX9_init_108 eh37 (?_ : hp_G _ _ _ _ _ _ _ _ _ 111 _ _ _)
  refine hp_aload_n 0 dX9_init_111 rfl rfl (?_ : hp_G _ _ _ _ _ _ _ _ _ 112 _ _ _)
  refine hp_bipush (v := 6) dX9_init_112 bi_6 (?_ : hp_G _ _ _ _ _ _ _ _ _ 114 _ _ _)
  replace hf := ob_ hf
  obtain ⟨na38, ena38, hf⟩ := hf
  replace hf := ob_ hf
  obtain ⟨h39, eh39, hf⟩ := hf
  refine hp_newarr (k := 5) (n := 38) (N := 6) wd_173 (by decide) (by decide) (by decide) dX9_init_114 (hp_nh ena38 eh39 ?_)
  replace hf := ob_ hf
  obtain ⟨h40, eh40, hf⟩ := hf
  refine fpX9_43 rfl rfl dX9_init_116 eh40 (?_ : hp_G _ _ _ _ _ _ _ _ _ 119 _ _ _)
  refine hp_aload_n 0 dX9_init_119 rfl rfl (?_ : hp_G _ _ _ _ _ _ _ _ _ 120 _ _ _)
  refine hp_bipush (v := 6) dX9_init_120 bi_6 (?_ : hp_G _ _ _ _ _ _ _ _ _ 122 _ _ _)
  replace hf := ob_ hf
  obtain ⟨na41, ena41, hf⟩ := hf
  replace hf := ob_ hf
  obtain ⟨h42, eh42, hf⟩ := hf
  refine hp_newarr (k := 4) (n := 32) (N := 6) wd_173 (by decide) (by decide) (by decide) dX9_init_122 (hp_nh ena41 eh42 ?_)
  replace hf := ob_ hf
  obtain ⟨h43, eh43, hf⟩ := hf
  refine fpX9_46 rfl rfl dX9_init_124 eh43 (?_ : hp_G _ _ _ _ _ _ _ _ _ 127 _ _ _)
  refine hp_aload_n 0 dX9_init_127 rfl rfl (?_ : hp_G _ _ _ _ _ _ _ _ _ 128 _ _ _)
  refine hp_bipush (v := 8) dX9_init_128 bi_8 (?_ : hp_G _ _ _ _ _ _ _ _ _ 130 _ _ _)
  replace hf := ob_ hf
  obtain ⟨na44, ena44, hf⟩ := hf
  replace hf := ob_ hf
  obtain ⟨h45, eh45, hf⟩ := hf
  refine hp_newarr (k := 3) (n := 24) (N := 8) wd_173 (by decide) (by decide) (by decide) dX9_init_130 (hp_nh ena44 eh45 ?_)
  replace hf := ob_ hf
  obtain ⟨h46, eh46, hf⟩ := hf
  refine fpX9_49 rfl rfl dX9_init_132 eh46 (?_ : hp_G _ _ _ _ _ _ _ _ _ 135 _ _ _)
  refine hp_aload_n 0 dX9_init_135 rfl rfl (?_ : hp_G _ _ _ _ _ _ _ _ _ 136 _ _ _)
  refine hp_bipush (v := 8) dX9_init_136 bi_8 (?_ : hp_G _ _ _ _ _ _ _ _ _ 138 _ _ _)
  replace hf := ob_ hf
  obtain ⟨na47, ena47, hf⟩ := hf
  replace hf := ob_ hf
  obtain ⟨h48, eh48, hf⟩ := hf
  refine hp_newarr (k := 2) (n := 16) (N := 8) wd_173 (by decide) (by decide) (by decide) dX9_init_138 (hp_nh ena47 eh48 ?_)
  replace hf := ob_ hf
  obtain ⟨h49, eh49, hf⟩ := hf
  refine fpX9_52 rfl rfl dX9_init_140 eh49 (?_ : hp_G _ _ _ _ _ _ _ _ _ 143 _ _ _)
  refine hp_aload_n 0 dX9_init_143 rfl rfl (?_ : hp_G _ _ _ _ _ _ _ _ _ 144 _ _ _)
  refine hp_bipush (v := 8) dX9_init_144 bi_8 (?_ : hp_G _ _ _ _ _ _ _ _ _ 146 _ _ _)
  replace hf := ob_ hf
  obtain ⟨na50, ena50, hf⟩ := hf
  replace hf := ob_ hf
  obtain ⟨h51, eh51, hf⟩ := hf
  refine hp_newarr (k := 1) (n := 8) (N := 8) wd_173 (by decide) (by decide) (by decide) dX9_init_146 (hp_nh ena50 eh51 ?_)
  replace hf := ob_ hf
  obtain ⟨h52, eh52, hf⟩ := hf
  refine fpX9_55 rfl rfl dX9_init_148 eh52 (?_ : hp_G _ _ _ _ _ _ _ _ _ 151 _ _ _)
  refine hp_aload_n 0 dX9_init_151 rfl rfl (?_ : hp_G _ _ _ _ _ _ _ _ _ 152 _ _ _)
  refine hp_bipush (v := 8) dX9_init_152 bi_8 (?_ : hp_G _ _ _ _ _ _ _ _ _ 154 _ _ _)
  replace hf := ob_ hf
  obtain ⟨na53, ena53, hf⟩ := hf
  replace hf := ob_ hf
  obtain ⟨h54, eh54, hf⟩ := hf
  refine hp_newarr (k := 0) (n := 0) (N := 8) wd_173 (by decide) (by decide) (by decide) dX9_init_154 (hp_nh ena53 eh54 ?_)
  replace hf := ob_ hf
  obtain ⟨h55, eh55, hf⟩ := hf
  refine fpX9_58 rfl rfl dX9_init_156 eh55 (?_ : hp_G _ _ _ _ _ _ _ _ _ 159 _ _ _)
  obtain rfl := Option.some.inj hf
  exact hp_vret kr (fun z => z) rfl dX9_init_159
theorem kX9_init (l : Launch) {h : hp_H} {a0 : Nat} {r : hp_H} (hf : fX9_init h a0 = some r) : hp_Cn l yX9_init mX9_init 1 true 17 352 [.ref a0] h (fun v h2 => none = v ∧ r = h2) :=
  hp_of (by decide) rfl (fun z => by rfl) (Nat.le_of_ble_eq_true rfl) (tX9_init l hf ⟨rfl, rfl⟩)
noncomputable def fX8_isSheet (h : hp_H) (p0 : Int32) : Option Int32 :=
if p0 < 0 then
(some 0)
else
(if (4 : Int32) ≤ p0 then
(some 0)
else
(some 1))
set_option maxRecDepth 20000 in
set_option maxHeartbeats 4000000 in
theorem tX8_isSheet (l : Launch) {h : hp_H} {p0 : Int32} {r : Int32} (hf : fX8_isSheet h p0 = some r) {Q : Option Value → hp_H → Prop} (kr : Q (some (.int r)) h) : hp_G l mX8_isSheet none 0 false Q false 0 0 0 [(0, .int p0)] [] h := by
  unfold fX8_isSheet at hf
  refine hp_iload_n 0 dX8_isSheet_0 rfl rfl (?_ : hp_G _ _ _ _ _ _ _ _ _ 1 _ _ _)
  refine hp_if_lt (tgt := 13) dX8_isSheet_1 rfl (fun c1 => ?_) (fun c1 => (?_ : hp_G _ _ _ _ _ _ _ _ _ 4 _ _ _))
  · replace hf := ot_ c1 hf
    refine hp_iconst (v := 0) dX8_isSheet_13 ic_0 (?_ : hp_G _ _ _ _ _ _ _ _ _ 14 _ _ _)
    obtain rfl := Option.some.inj hf
    exact hp_zret kr (fun z => z) rfl (by decide) dX8_isSheet_14
  · replace hf := of_ c1 hf
    refine hp_iload_n 0 dX8_isSheet_4 rfl rfl (?_ : hp_G _ _ _ _ _ _ _ _ _ 5 _ _ _)
    refine hp_iconst (v := 4) dX8_isSheet_5 ic_4 (?_ : hp_G _ _ _ _ _ _ _ _ _ 6 _ _ _)
    refine hp_icmp_ge (tgt := 13) dX8_isSheet_6 rfl (fun c2 => ?_) (fun c2 => (?_ : hp_G _ _ _ _ _ _ _ _ _ 9 _ _ _))
    · replace hf := ot_ c2 hf
      refine hp_iconst (v := 0) dX8_isSheet_13 ic_0 (?_ : hp_G _ _ _ _ _ _ _ _ _ 14 _ _ _)
      obtain rfl := Option.some.inj hf
      exact hp_zret kr (fun z => z) rfl (by decide) dX8_isSheet_14
    · replace hf := of_ c2 hf
      refine hp_iconst (v := 1) dX8_isSheet_9 ic_1 (?_ : hp_G _ _ _ _ _ _ _ _ _ 10 _ _ _)
      refine hp_goto (tgt := 14) dX8_isSheet_10 rfl (?_ : hp_G _ _ _ _ _ _ _ _ _ 14 _ _ _)
      obtain rfl := Option.some.inj hf
      exact hp_zret kr (fun z => z) rfl (by decide) dX8_isSheet_14
theorem kX8_isSheet (l : Launch) {h : hp_H} {p0 : Int32} {r : Int32} (hf : fX8_isSheet h p0 = some r) : hp_Cn l yX8_isSheet mX8_isSheet 0 false 0 0 [.int p0] h (fun v h2 => some (.int r) = v ∧ h = h2) :=
  hp_of (by decide) rfl (fun z => by cases z) (Nat.le_of_ble_eq_true rfl) (tX8_isSheet l hf ⟨rfl, rfl⟩)
noncomputable def fX8_isLane (h : hp_H) (p0 : Int32) : Option Int32 :=
if p0 < 0 then
(some 0)
else
(if (3 : Int32) ≤ p0 then
(some 0)
else
(some 1))
set_option maxRecDepth 20000 in
set_option maxHeartbeats 4000000 in
theorem tX8_isLane (l : Launch) {h : hp_H} {p0 : Int32} {r : Int32} (hf : fX8_isLane h p0 = some r) {Q : Option Value → hp_H → Prop} (kr : Q (some (.int r)) h) : hp_G l mX8_isLane none 0 false Q false 0 0 0 [(0, .int p0)] [] h := by
  unfold fX8_isLane at hf
  refine hp_iload_n 0 dX8_isLane_0 rfl rfl (?_ : hp_G _ _ _ _ _ _ _ _ _ 1 _ _ _)
  refine hp_if_lt (tgt := 13) dX8_isLane_1 rfl (fun c1 => ?_) (fun c1 => (?_ : hp_G _ _ _ _ _ _ _ _ _ 4 _ _ _))
  · replace hf := ot_ c1 hf
    refine hp_iconst (v := 0) dX8_isLane_13 ic_0 (?_ : hp_G _ _ _ _ _ _ _ _ _ 14 _ _ _)
    obtain rfl := Option.some.inj hf
    exact hp_zret kr (fun z => z) rfl (by decide) dX8_isLane_14
  · replace hf := of_ c1 hf
    refine hp_iload_n 0 dX8_isLane_4 rfl rfl (?_ : hp_G _ _ _ _ _ _ _ _ _ 5 _ _ _)
    refine hp_iconst (v := 3) dX8_isLane_5 ic_3 (?_ : hp_G _ _ _ _ _ _ _ _ _ 6 _ _ _)
    refine hp_icmp_ge (tgt := 13) dX8_isLane_6 rfl (fun c2 => ?_) (fun c2 => (?_ : hp_G _ _ _ _ _ _ _ _ _ 9 _ _ _))
    · replace hf := ot_ c2 hf
      refine hp_iconst (v := 0) dX8_isLane_13 ic_0 (?_ : hp_G _ _ _ _ _ _ _ _ _ 14 _ _ _)
      obtain rfl := Option.some.inj hf
      exact hp_zret kr (fun z => z) rfl (by decide) dX8_isLane_14
    · replace hf := of_ c2 hf
      refine hp_iconst (v := 1) dX8_isLane_9 ic_1 (?_ : hp_G _ _ _ _ _ _ _ _ _ 10 _ _ _)
      refine hp_goto (tgt := 14) dX8_isLane_10 rfl (?_ : hp_G _ _ _ _ _ _ _ _ _ 14 _ _ _)
      obtain rfl := Option.some.inj hf
      exact hp_zret kr (fun z => z) rfl (by decide) dX8_isLane_14
theorem kX8_isLane (l : Launch) {h : hp_H} {p0 : Int32} {r : Int32} (hf : fX8_isLane h p0 = some r) : hp_Cn l yX8_isLane mX8_isLane 0 false 0 0 [.int p0] h (fun v h2 => some (.int r) = v ∧ h = h2) :=
  hp_of (by decide) rfl (fun z => by cases z) (Nat.le_of_ble_eq_true rfl) (tX8_isLane l hf ⟨rfl, rfl⟩)
noncomputable def fX5_reaches (h : hp_H) (a0 : Nat) (p1 : Int32) (p2 : Int32) : Option Int32 :=
if p2 < 0 then
(some 0)
else
(if p1 < 0 then
(some 0)
else
((gi_ h a0 5 3).bind fun x3 =>
if x3 - p2 < p1 then
(some 0)
else
(some 1)))
set_option maxRecDepth 20000 in
set_option maxHeartbeats 4000000 in
theorem tX5_reaches (l : Launch) {h : hp_H} {a0 : Nat} {p1 : Int32} {p2 : Int32} {r : Int32} (hf : fX5_reaches h a0 p1 p2 = some r) {Q : Option Value → hp_H → Prop} (kr : Q (some (.int r)) h) : hp_G l mX5_reaches none 0 false Q false 0 0 0 [(0, .ref a0), (1, .int p1), (2, .int p2)] [] h := by
  unfold fX5_reaches at hf
  refine hp_iload_n 2 dX5_reaches_0 rfl rfl (?_ : hp_G _ _ _ _ _ _ _ _ _ 1 _ _ _)
  refine hp_if_lt (tgt := 22) dX5_reaches_1 rfl (fun c1 => ?_) (fun c1 => (?_ : hp_G _ _ _ _ _ _ _ _ _ 4 _ _ _))
  · replace hf := ot_ c1 hf
    refine hp_iconst (v := 0) dX5_reaches_22 ic_0 (?_ : hp_G _ _ _ _ _ _ _ _ _ 23 _ _ _)
    obtain rfl := Option.some.inj hf
    exact hp_zret kr (fun z => z) rfl (by decide) dX5_reaches_23
  · replace hf := of_ c1 hf
    refine hp_iload_n 1 dX5_reaches_4 rfl rfl (?_ : hp_G _ _ _ _ _ _ _ _ _ 5 _ _ _)
    refine hp_if_lt (tgt := 22) dX5_reaches_5 rfl (fun c2 => ?_) (fun c2 => (?_ : hp_G _ _ _ _ _ _ _ _ _ 8 _ _ _))
    · replace hf := ot_ c2 hf
      refine hp_iconst (v := 0) dX5_reaches_22 ic_0 (?_ : hp_G _ _ _ _ _ _ _ _ _ 23 _ _ _)
      obtain rfl := Option.some.inj hf
      exact hp_zret kr (fun z => z) rfl (by decide) dX5_reaches_23
    · replace hf := of_ c2 hf
      refine hp_iload_n 1 dX5_reaches_8 rfl rfl (?_ : hp_G _ _ _ _ _ _ _ _ _ 9 _ _ _)
      refine hp_aload_n 0 dX5_reaches_9 rfl rfl (?_ : hp_G _ _ _ _ _ _ _ _ _ 10 _ _ _)
      replace hf := ob_ hf
      obtain ⟨x3, ex3, hf⟩ := hf
      refine fgX5_29 rfl dX5_reaches_10 ex3 (?_ : hp_G _ _ _ _ _ _ _ _ _ 13 _ _ _)
      refine hp_iload_n 2 dX5_reaches_13 rfl rfl (?_ : hp_G _ _ _ _ _ _ _ _ _ 14 _ _ _)
      refine hp_isub dX5_reaches_14 (?_ : hp_G _ _ _ _ _ _ _ _ _ 15 _ _ _)
      refine hp_icmp_gt (tgt := 22) dX5_reaches_15 rfl (fun c4 => ?_) (fun c4 => (?_ : hp_G _ _ _ _ _ _ _ _ _ 18 _ _ _))
      · replace hf := ot_ c4 hf
        refine hp_iconst (v := 0) dX5_reaches_22 ic_0 (?_ : hp_G _ _ _ _ _ _ _ _ _ 23 _ _ _)
        obtain rfl := Option.some.inj hf
        exact hp_zret kr (fun z => z) rfl (by decide) dX5_reaches_23
      · replace hf := of_ c4 hf
        refine hp_iconst (v := 1) dX5_reaches_18 ic_1 (?_ : hp_G _ _ _ _ _ _ _ _ _ 19 _ _ _)
        refine hp_goto (tgt := 23) dX5_reaches_19 rfl (?_ : hp_G _ _ _ _ _ _ _ _ _ 23 _ _ _)
        obtain rfl := Option.some.inj hf
        exact hp_zret kr (fun z => z) rfl (by decide) dX5_reaches_23
theorem kX5_reaches (l : Launch) {h : hp_H} {a0 : Nat} {p1 : Int32} {p2 : Int32} {r : Int32} (hf : fX5_reaches h a0 p1 p2 = some r) : hp_Cn l yX5_reaches mX5_reaches 0 false 0 0 [.ref a0, .int p1, .int p2] h (fun v h2 => some (.int r) = v ∧ h = h2) :=
  hp_of (by decide) rfl (fun z => by cases z) (Nat.le_of_ble_eq_true rfl) (tX5_reaches l hf ⟨rfl, rfl⟩)
