/-! the class's own nested classes (by program: wip/whole/gen/gen.py) -/
theorem dX0_come_0 : decode cX0_come 0 = .ok (.aload_n 0, 1) := by decide +kernel
theorem dX0_come_1 : decode cX0_come 1 = .ok (.getfield 38, 3) := by decide +kernel
theorem dX0_come_4 : decode cX0_come 4 = .ok (.istore 5, 2) := by decide +kernel
theorem dX0_come_6 : decode cX0_come 6 = .ok (.aload_n 0, 1) := by decide +kernel
theorem dX0_come_7 : decode cX0_come 7 = .ok (.getfield 14, 3) := by decide +kernel
theorem dX0_come_10 : decode cX0_come 10 = .ok (.iload 5, 2) := by decide +kernel
theorem dX0_come_12 : decode cX0_come 12 = .ok (.iload_n 1, 1) := by decide +kernel
theorem dX0_come_13 : decode cX0_come 13 = .ok (.invokevirtual 42, 3) := by decide +kernel
theorem dX0_come_16 : decode cX0_come 16 = .ok (.aload_n 0, 1) := by decide +kernel
theorem dX0_come_17 : decode cX0_come 17 = .ok (.getfield 20, 3) := by decide +kernel
theorem dX0_come_20 : decode cX0_come 20 = .ok (.iload 5, 2) := by decide +kernel
theorem dX0_come_22 : decode cX0_come 22 = .ok (.iload_n 2, 1) := by decide +kernel
theorem dX0_come_23 : decode cX0_come 23 = .ok (.invokevirtual 42, 3) := by decide +kernel
theorem dX0_come_26 : decode cX0_come 26 = .ok (.aload_n 0, 1) := by decide +kernel
theorem dX0_come_27 : decode cX0_come 27 = .ok (.getfield 23, 3) := by decide +kernel
theorem dX0_come_30 : decode cX0_come 30 = .ok (.iload 5, 2) := by decide +kernel
theorem dX0_come_32 : decode cX0_come 32 = .ok (.iload_n 3, 1) := by decide +kernel
theorem dX0_come_33 : decode cX0_come 33 = .ok (.invokevirtual 42, 3) := by decide +kernel
theorem dX0_come_36 : decode cX0_come 36 = .ok (.aload_n 0, 1) := by decide +kernel
theorem dX0_come_37 : decode cX0_come 37 = .ok (.getfield 26, 3) := by decide +kernel
theorem dX0_come_40 : decode cX0_come 40 = .ok (.iload 5, 2) := by decide +kernel
theorem dX0_come_42 : decode cX0_come 42 = .ok (.iload 4, 2) := by decide +kernel
theorem dX0_come_44 : decode cX0_come 44 = .ok (.invokevirtual 42, 3) := by decide +kernel
theorem dX0_come_47 : decode cX0_come 47 = .ok (.aload_n 0, 1) := by decide +kernel
theorem dX0_come_48 : decode cX0_come 48 = .ok (.dup, 1) := by decide +kernel
theorem dX0_come_49 : decode cX0_come 49 = .ok (.getfield 38, 3) := by decide +kernel
theorem dX0_come_52 : decode cX0_come 52 = .ok (.iconst 1, 1) := by decide +kernel
theorem dX0_come_53 : decode cX0_come 53 = .ok (.iadd, 1) := by decide +kernel
theorem dX0_come_54 : decode cX0_come 54 = .ok (.putfield 38, 3) := by decide +kernel
theorem dX0_come_57 : decode cX0_come 57 = .ok (.iload 5, 2) := by decide +kernel
theorem dX0_come_59 : decode cX0_come 59 = .ok (.ireturn, 1) := by decide +kernel
def pX0_come (a1 : Int32) (a2 : Int32) (a3 : Int32) (a4 : Int32) (u : St) : Option (Int32 × St) := some (u.2 6, sS (rs (rs (rs (rs u 0 (u.2 6) a1) 1 (u.2 6) a2) 2 (u.2 6) a3) 3 (u.2 6) a4) 6 (((rs (rs (rs (rs u 0 (u.2 6) a1) 1 (u.2 6) a2) 2 (u.2 6) a3) 3 (u.2 6) a4).2 6) + 1))
set_option maxHeartbeats 4000000 in
set_option maxRecDepth 20000 in
theorem kX0_come {l : Launch} {D : va_G} {Y : Nat → ClassId} {q : Nat → Nat} {a1 a2 a3 a4 : Int32} {u u1 : St} {r : Int32} (hX : pX0_come a1 a2 a3 a4 u = some (r, u1)) : CMi l yX0_come cX0_come 6 (some .int) 1 22 D Y (wC Y q u) (wC Y q u1) [.ref (q 1), .int a1, .int a2, .int a3, .int a4] r := by
  refine cm_ofi (by decide) (Nat.le_of_ble_eq_true rfl) rfl (fun p e s m args below meth c A F hr hlk => ?_)
  show GW p l e { frames := 1, cells := 0, slots := 0, locals := 22 } s m args below meth c D A 6 0 0 (MQ below (QI D (wC Y q u1) r A) args s 0 0 A) (wC Y q u) 0 [(0, .ref (q 1)), (1, .int a1), (2, .int a2), (3, .int a3), (4, .int a4)] []
  have hX : (some (u.2 6, sS (rs (rs (rs (rs u 0 (u.2 6) a1) 1 (u.2 6) a2) 2 (u.2 6) a3) 3 (u.2 6) a4) 6 (((rs (rs (rs (rs u 0 (u.2 6) a1) 1 (u.2 6) a2) 2 (u.2 6) a3) 3 (u.2 6) a4).2 6) + 1))) = some (r, u1) := hX
  refine g_aload_n F dX0_come_0 0 rfl rfl ?_
  refine G_X0_38 F dX0_come_1 ?_
  refine g_istore (lv' := [(5, .int (u.2 6)), (0, .ref (q 1)), (1, .int a1), (2, .int a2), (3, .int a3), (4, .int a4)]) F dX0_come_4 (by decide) rfl ?_
  refine g_aload_n F dX0_come_6 1 rfl rfl ?_
  refine G_X0_14 F dX0_come_7 ?_
  refine g_iload F dX0_come_10 0 rfl ?_
  refine g_iload_n F dX0_come_12 2 rfl rfl ?_
  refine C_rset F 0 (by decide) ml_X0_42 ⟨Nat.le_of_ble_eq_true rfl, Nat.le_of_ble_eq_true rfl⟩ (Nat.le_of_ble_eq_true rfl) dX0_come_13 ?_
  refine g_aload_n F dX0_come_16 1 rfl rfl ?_
  refine G_X0_20 F dX0_come_17 ?_
  refine g_iload F dX0_come_20 0 rfl ?_
  refine g_iload_n F dX0_come_22 3 rfl rfl ?_
  refine C_rset F 1 (by decide) ml_X0_42 ⟨Nat.le_of_ble_eq_true rfl, Nat.le_of_ble_eq_true rfl⟩ (Nat.le_of_ble_eq_true rfl) dX0_come_23 ?_
  refine g_aload_n F dX0_come_26 1 rfl rfl ?_
  refine G_X0_23 F dX0_come_27 ?_
  refine g_iload F dX0_come_30 0 rfl ?_
  refine g_iload_n F dX0_come_32 4 rfl rfl ?_
  refine C_rset F 2 (by decide) ml_X0_42 ⟨Nat.le_of_ble_eq_true rfl, Nat.le_of_ble_eq_true rfl⟩ (Nat.le_of_ble_eq_true rfl) dX0_come_33 ?_
  refine g_aload_n F dX0_come_36 1 rfl rfl ?_
  refine G_X0_26 F dX0_come_37 ?_
  refine g_iload F dX0_come_40 0 rfl ?_
  refine g_iload F dX0_come_42 5 rfl ?_
  refine C_rset F 3 (by decide) ml_X0_42 ⟨Nat.le_of_ble_eq_true rfl, Nat.le_of_ble_eq_true rfl⟩ (Nat.le_of_ble_eq_true rfl) dX0_come_44 ?_
  refine g_aload_n F dX0_come_47 1 rfl rfl ?_
  refine g_dup F dX0_come_48 rfl ?_
  refine G_X0_38 F dX0_come_49 ?_
  refine g_iconst (v := 1) F dX0_come_52 (by decide) ?_
  refine g_iadd F dX0_come_53 ?_
  refine P_X0_38 F dX0_come_54 ?_
  refine g_iload F dX0_come_57 0 rfl ?_
  exact g_retC (wf := wC Y q) F hr rfl hlk dX0_come_59 hX
theorem callX0_come {p : Program} {l : Launch} {e : Env} {R : Room} {s : State} {m : MethodId} {args : Array Value} {below : List Frame} {meth : Method} {c : Code} {D : va_G} {Y : Nat → ClassId} {A : Nat → Prop} {cc : ByteArray} {nL : Nat} {own : String} {Q : State → Prop} {pc : Nat} {lv : List (Nat × Value)} {rest : List Value} {q : Nat → Nat} {a1 a2 a3 a4 : Int32} {u u1 : St} {r : Int32} (F : Fx p s m args c D Y A cc nL own) (hX : pX0_come a1 a2 a3 a4 u = some (r, u1)) {index : Nat} (hml : Cond.methodLink own index yX0_come ∈ TBL) (hR : 1 + 1 ≤ R.frames ∧ 8 + (6 + 11) + 22 ≤ R.locals) (hcat : (rest.map fun v => v.category).sum ≤ 8) (hd : decode cc pc = .ok (.invokevirtual index, 3)) (kk : GW p l e R s m args below meth c D A nL 0 0 Q (wC Y q u1) (pc + 3) lv (.int r :: rest)) : GW p l e R s m args below meth c D A nL 0 0 Q (wC Y q u) pc lv (.int a4 :: .int a3 :: .int a2 :: .int a1 :: .ref (q 1) :: rest) := g_callVi (ws := wC Y q u) (n := 4) (q0 := 1) (As := [.int a1, .int a2, .int a3, .int a4]) F [] [] (kX0_come hX) (List.append_nil _).symm (List.append_nil _) (by unfold mOK; decide +kernel) rfl rfl cd_yX0_come hml im_yX0_come se_yX0_come in_X0 rfl rfl hR ⟨Nat.zero_le _, Nat.zero_le _⟩ rfl hcat hd kk
theorem dX0_isHeld_0 : decode cX0_isHeld 0 = .ok (.aload_n 0, 1) := by decide +kernel
theorem dX0_isHeld_1 : decode cX0_isHeld 1 = .ok (.getfield 29, 3) := by decide +kernel
theorem dX0_isHeld_4 : decode cX0_isHeld 4 = .ok (.iload_n 1, 1) := by decide +kernel
theorem dX0_isHeld_5 : decode cX0_isHeld 5 = .ok (.invokevirtual 45, 3) := by decide +kernel
theorem dX0_isHeld_8 : decode cX0_isHeld 8 = .ok (.bipush 7, 2) := by decide +kernel
theorem dX0_isHeld_10 : decode cX0_isHeld 10 = .ok (.if_icmp .eq 7, 3) := by decide +kernel
theorem dX0_isHeld_13 : decode cX0_isHeld 13 = .ok (.iconst 1, 1) := by decide +kernel
theorem dX0_isHeld_14 : decode cX0_isHeld 14 = .ok (.goto 4, 3) := by decide +kernel
theorem dX0_isHeld_17 : decode cX0_isHeld 17 = .ok (.iconst 0, 1) := by decide +kernel
theorem dX0_isHeld_18 : decode cX0_isHeld 18 = .ok (.ireturn, 1) := by decide +kernel
def pX0_isHeld (a1 : Int32) (u : St) : Option (Int32 × St) := if (rg u 4 a1) = 7 then (some (0, u)) else (some (1, u))
set_option maxHeartbeats 4000000 in
set_option maxRecDepth 20000 in
theorem kX0_isHeld {l : Launch} {D : va_G} {Y : Nat → ClassId} {q : Nat → Nat} {a1 : Int32} {u u1 : St} {r : Int32} (hX : pX0_isHeld a1 u = some (r, u1)) : CMi l yX0_isHeld cX0_isHeld 2 (some .boolean) 1 21 D Y (wC Y q u) (wC Y q u1) [.ref (q 1), .int a1] r := by
  refine cm_ofi (by decide) (Nat.le_of_ble_eq_true rfl) rfl (fun p e s m args below meth c A F hr hlk => ?_)
  show GW p l e { frames := 1, cells := 0, slots := 0, locals := 21 } s m args below meth c D A 2 0 0 (MQ below (QI D (wC Y q u1) r A) args s 0 0 A) (wC Y q u) 0 [(0, .ref (q 1)), (1, .int a1)] []
  have hX : (if (rg u 4 a1) = 7 then (some (0, u)) else (some (1, u))) = some (r, u1) := hX
  refine g_aload_n F dX0_isHeld_0 0 rfl rfl ?_
  refine G_X0_29 F dX0_isHeld_1 ?_
  refine g_iload_n F dX0_isHeld_4 1 rfl rfl ?_
  refine C_rget F 4 (by decide) ml_X0_45 ⟨Nat.le_of_ble_eq_true rfl, Nat.le_of_ble_eq_true rfl⟩ (Nat.le_of_ble_eq_true rfl) dX0_isHeld_5 ?_
  refine g_bipush (v := 7) F dX0_isHeld_8 (by decide) ?_
  refine g_icmp_eq (tgt := 17) F dX0_isHeld_10 (by decide) (fun c1 => ?_) (fun c1 => ?_)
  · have hX := if_t hX c1
    refine g_iconst (v := 0) F dX0_isHeld_17 (by decide) ?_
    exact g_retC (wf := wC Y q) F hr rfl hlk dX0_isHeld_18 hX
  · have hX := if_f hX c1
    refine g_iconst (v := 1) F dX0_isHeld_13 (by decide) ?_
    refine g_goto (tgt := 18) F dX0_isHeld_14 (by decide) ?_
    exact g_retC (wf := wC Y q) F hr rfl hlk dX0_isHeld_18 hX
theorem callX0_isHeld {p : Program} {l : Launch} {e : Env} {R : Room} {s : State} {m : MethodId} {args : Array Value} {below : List Frame} {meth : Method} {c : Code} {D : va_G} {Y : Nat → ClassId} {A : Nat → Prop} {cc : ByteArray} {nL : Nat} {own : String} {Q : State → Prop} {pc : Nat} {lv : List (Nat × Value)} {rest : List Value} {q : Nat → Nat} {a1 : Int32} {u u1 : St} {r : Int32} (F : Fx p s m args c D Y A cc nL own) (hX : pX0_isHeld a1 u = some (r, u1)) {index : Nat} (hml : Cond.methodLink own index yX0_isHeld ∈ TBL) (hR : 1 + 1 ≤ R.frames ∧ 8 + (2 + 11) + 21 ≤ R.locals) (hcat : (rest.map fun v => v.category).sum ≤ 8) (hd : decode cc pc = .ok (.invokevirtual index, 3)) (kk : GW p l e R s m args below meth c D A nL 0 0 Q (wC Y q u1) (pc + 3) lv (.int r :: rest)) : GW p l e R s m args below meth c D A nL 0 0 Q (wC Y q u) pc lv (.int a1 :: .ref (q 1) :: rest) := g_callVi (ws := wC Y q u) (n := 1) (q0 := 1) (As := [.int a1]) F [] [] (kX0_isHeld hX) (List.append_nil _).symm (List.append_nil _) (by unfold mOK; decide +kernel) rfl rfl cd_yX0_isHeld hml im_yX0_isHeld se_yX0_isHeld in_X0 rfl rfl hR ⟨Nat.zero_le _, Nat.zero_le _⟩ rfl hcat hd kk
theorem dX0_mayCarry_0 : decode cX0_mayCarry 0 = .ok (.iload_n 2, 1) := by decide +kernel
theorem dX0_mayCarry_1 : decode cX0_mayCarry 1 = .ok (.aload_n 0, 1) := by decide +kernel
theorem dX0_mayCarry_2 : decode cX0_mayCarry 2 = .ok (.getfield 14, 3) := by decide +kernel
theorem dX0_mayCarry_5 : decode cX0_mayCarry 5 = .ok (.iload_n 1, 1) := by decide +kernel
theorem dX0_mayCarry_6 : decode cX0_mayCarry 6 = .ok (.invokevirtual 45, 3) := by decide +kernel
theorem dX0_mayCarry_9 : decode cX0_mayCarry 9 = .ok (.iconst 5, 1) := by decide +kernel
theorem dX0_mayCarry_10 : decode cX0_mayCarry 10 = .ok (.iadd, 1) := by decide +kernel
theorem dX0_mayCarry_11 : decode cX0_mayCarry 11 = .ok (.if_icmp .gt 7, 3) := by decide +kernel
theorem dX0_mayCarry_14 : decode cX0_mayCarry 14 = .ok (.iconst 1, 1) := by decide +kernel
theorem dX0_mayCarry_15 : decode cX0_mayCarry 15 = .ok (.goto 4, 3) := by decide +kernel
theorem dX0_mayCarry_18 : decode cX0_mayCarry 18 = .ok (.iconst 0, 1) := by decide +kernel
theorem dX0_mayCarry_19 : decode cX0_mayCarry 19 = .ok (.ireturn, 1) := by decide +kernel
def pX0_mayCarry (a1 : Int32) (a2 : Int32) (u : St) : Option (Int32 × St) := if ((rg u 0 a1) + 5) < a2 then (some (0, u)) else (some (1, u))
set_option maxHeartbeats 4000000 in
set_option maxRecDepth 20000 in
theorem kX0_mayCarry {l : Launch} {D : va_G} {Y : Nat → ClassId} {q : Nat → Nat} {a1 a2 : Int32} {u u1 : St} {r : Int32} (hX : pX0_mayCarry a1 a2 u = some (r, u1)) : CMi l yX0_mayCarry cX0_mayCarry 3 (some .boolean) 1 21 D Y (wC Y q u) (wC Y q u1) [.ref (q 1), .int a1, .int a2] r := by
  refine cm_ofi (by decide) (Nat.le_of_ble_eq_true rfl) rfl (fun p e s m args below meth c A F hr hlk => ?_)
  show GW p l e { frames := 1, cells := 0, slots := 0, locals := 21 } s m args below meth c D A 3 0 0 (MQ below (QI D (wC Y q u1) r A) args s 0 0 A) (wC Y q u) 0 [(0, .ref (q 1)), (1, .int a1), (2, .int a2)] []
  have hX : (if ((rg u 0 a1) + 5) < a2 then (some (0, u)) else (some (1, u))) = some (r, u1) := hX
  refine g_iload_n F dX0_mayCarry_0 2 rfl rfl ?_
  refine g_aload_n F dX0_mayCarry_1 0 rfl rfl ?_
  refine G_X0_14 F dX0_mayCarry_2 ?_
  refine g_iload_n F dX0_mayCarry_5 1 rfl rfl ?_
  refine C_rget F 0 (by decide) ml_X0_45 ⟨Nat.le_of_ble_eq_true rfl, Nat.le_of_ble_eq_true rfl⟩ (Nat.le_of_ble_eq_true rfl) dX0_mayCarry_6 ?_
  refine g_iconst (v := 5) F dX0_mayCarry_9 (by decide) ?_
  refine g_iadd F dX0_mayCarry_10 ?_
  refine g_icmp_gt (tgt := 18) F dX0_mayCarry_11 (by decide) (fun c1 => ?_) (fun c1 => ?_)
  · have hX := if_t hX c1
    refine g_iconst (v := 0) F dX0_mayCarry_18 (by decide) ?_
    exact g_retC (wf := wC Y q) F hr rfl hlk dX0_mayCarry_19 hX
  · have hX := if_f hX c1
    refine g_iconst (v := 1) F dX0_mayCarry_14 (by decide) ?_
    refine g_goto (tgt := 19) F dX0_mayCarry_15 (by decide) ?_
    exact g_retC (wf := wC Y q) F hr rfl hlk dX0_mayCarry_19 hX
theorem callX0_mayCarry {p : Program} {l : Launch} {e : Env} {R : Room} {s : State} {m : MethodId} {args : Array Value} {below : List Frame} {meth : Method} {c : Code} {D : va_G} {Y : Nat → ClassId} {A : Nat → Prop} {cc : ByteArray} {nL : Nat} {own : String} {Q : State → Prop} {pc : Nat} {lv : List (Nat × Value)} {rest : List Value} {q : Nat → Nat} {a1 a2 : Int32} {u u1 : St} {r : Int32} (F : Fx p s m args c D Y A cc nL own) (hX : pX0_mayCarry a1 a2 u = some (r, u1)) {index : Nat} (hml : Cond.methodLink own index yX0_mayCarry ∈ TBL) (hR : 1 + 1 ≤ R.frames ∧ 8 + (3 + 11) + 21 ≤ R.locals) (hcat : (rest.map fun v => v.category).sum ≤ 8) (hd : decode cc pc = .ok (.invokevirtual index, 3)) (kk : GW p l e R s m args below meth c D A nL 0 0 Q (wC Y q u1) (pc + 3) lv (.int r :: rest)) : GW p l e R s m args below meth c D A nL 0 0 Q (wC Y q u) pc lv (.int a2 :: .int a1 :: .ref (q 1) :: rest) := g_callVi (ws := wC Y q u) (n := 2) (q0 := 1) (As := [.int a1, .int a2]) F [] [] (kX0_mayCarry hX) (List.append_nil _).symm (List.append_nil _) (by unfold mOK; decide +kernel) rfl rfl cd_yX0_mayCarry hml im_yX0_mayCarry se_yX0_mayCarry in_X0 rfl rfl hR ⟨Nat.zero_le _, Nat.zero_le _⟩ rfl hcat hd kk
theorem dX0_move_0 : decode cX0_move 0 = .ok (.aload_n 0, 1) := by decide +kernel
theorem dX0_move_1 : decode cX0_move 1 = .ok (.getfield 32, 3) := by decide +kernel
theorem dX0_move_4 : decode cX0_move 4 = .ok (.iload_n 1, 1) := by decide +kernel
theorem dX0_move_5 : decode cX0_move 5 = .ok (.iload_n 2, 1) := by decide +kernel
theorem dX0_move_6 : decode cX0_move 6 = .ok (.invokevirtual 42, 3) := by decide +kernel
theorem dX0_move_9 : decode cX0_move 9 = .ok (.aload_n 0, 1) := by decide +kernel
theorem dX0_move_10 : decode cX0_move 10 = .ok (.getfield 35, 3) := by decide +kernel
theorem dX0_move_13 : decode cX0_move 13 = .ok (.iload_n 1, 1) := by decide +kernel
theorem dX0_move_14 : decode cX0_move 14 = .ok (.iload_n 3, 1) := by decide +kernel
theorem dX0_move_15 : decode cX0_move 15 = .ok (.invokevirtual 42, 3) := by decide +kernel
theorem dX0_move_18 : decode cX0_move 18 = .ok (.return_, 1) := by decide +kernel
def pX0_move (a1 : Int32) (a2 : Int32) (a3 : Int32) (u : St) : Option (Int32 × St) := some (0, rs (rs u 5 a1 a2) 6 a1 a3)
set_option maxHeartbeats 4000000 in
set_option maxRecDepth 20000 in
theorem kX0_move {l : Launch} {D : va_G} {Y : Nat → ClassId} {q : Nat → Nat} {a1 a2 a3 : Int32} {u u1 : St} {r : Int32} (hX : pX0_move a1 a2 a3 u = some (r, u1)) : CMv l yX0_move cX0_move 4 1 22 D Y (wC Y q u) (wC Y q u1) [.ref (q 1), .int a1, .int a2, .int a3] := by
  refine cm_ofv (by decide) (Nat.le_of_ble_eq_true rfl) rfl (fun p e s m args below meth c A F hr hlk => ?_)
  show GW p l e { frames := 1, cells := 0, slots := 0, locals := 22 } s m args below meth c D A 4 0 0 (MQ below (QV D (wC Y q u1) A) args s 0 0 A) (wC Y q u) 0 [(0, .ref (q 1)), (1, .int a1), (2, .int a2), (3, .int a3)] []
  have hX : (some (0, rs (rs u 5 a1 a2) 6 a1 a3)) = some (r, u1) := hX
  refine g_aload_n F dX0_move_0 0 rfl rfl ?_
  refine G_X0_32 F dX0_move_1 ?_
  refine g_iload_n F dX0_move_4 1 rfl rfl ?_
  refine g_iload_n F dX0_move_5 2 rfl rfl ?_
  refine C_rset F 5 (by decide) ml_X0_42 ⟨Nat.le_of_ble_eq_true rfl, Nat.le_of_ble_eq_true rfl⟩ (Nat.le_of_ble_eq_true rfl) dX0_move_6 ?_
  refine g_aload_n F dX0_move_9 0 rfl rfl ?_
  refine G_X0_35 F dX0_move_10 ?_
  refine g_iload_n F dX0_move_13 1 rfl rfl ?_
  refine g_iload_n F dX0_move_14 3 rfl rfl ?_
  refine C_rset F 6 (by decide) ml_X0_42 ⟨Nat.le_of_ble_eq_true rfl, Nat.le_of_ble_eq_true rfl⟩ (Nat.le_of_ble_eq_true rfl) dX0_move_15 ?_
  exact g_retV (wf := wC Y q) F hr hlk dX0_move_18 hX
theorem callX0_move {p : Program} {l : Launch} {e : Env} {R : Room} {s : State} {m : MethodId} {args : Array Value} {below : List Frame} {meth : Method} {c : Code} {D : va_G} {Y : Nat → ClassId} {A : Nat → Prop} {cc : ByteArray} {nL : Nat} {own : String} {Q : State → Prop} {pc : Nat} {lv : List (Nat × Value)} {rest : List Value} {q : Nat → Nat} {a1 a2 a3 : Int32} {u u1 : St} {r : Int32} (F : Fx p s m args c D Y A cc nL own) (hX : pX0_move a1 a2 a3 u = some (r, u1)) {index : Nat} (hml : Cond.methodLink own index yX0_move ∈ TBL) (hR : 1 + 1 ≤ R.frames ∧ 8 + (4 + 11) + 22 ≤ R.locals) (hcat : (rest.map fun v => v.category).sum ≤ 8) (hd : decode cc pc = .ok (.invokevirtual index, 3)) (kk : GW p l e R s m args below meth c D A nL 0 0 Q (wC Y q u1) (pc + 3) lv (rest)) : GW p l e R s m args below meth c D A nL 0 0 Q (wC Y q u) pc lv (.int a3 :: .int a2 :: .int a1 :: .ref (q 1) :: rest) := g_callVv (ws := wC Y q u) (n := 3) (q0 := 1) (As := [.int a1, .int a2, .int a3]) F [] [] (kX0_move hX) (List.append_nil _).symm (List.append_nil _) (by unfold mOK; decide +kernel) rfl rfl cd_yX0_move hml im_yX0_move se_yX0_move in_X0 rfl rfl hR ⟨Nat.zero_le _, Nat.zero_le _⟩ rfl hcat hd kk
theorem dX1_reaches_0 : decode cX1_reaches 0 = .ok (.iload_n 2, 1) := by decide +kernel
theorem dX1_reaches_1 : decode cX1_reaches 1 = .ok (.aload_n 0, 1) := by decide +kernel
theorem dX1_reaches_2 : decode cX1_reaches 2 = .ok (.getfield 14, 3) := by decide +kernel
theorem dX1_reaches_5 : decode cX1_reaches 5 = .ok (.iload_n 1, 1) := by decide +kernel
theorem dX1_reaches_6 : decode cX1_reaches 6 = .ok (.invokevirtual 26, 3) := by decide +kernel
theorem dX1_reaches_9 : decode cX1_reaches 9 = .ok (.if_icmp .lt 19, 3) := by decide +kernel
theorem dX1_reaches_12 : decode cX1_reaches 12 = .ok (.iload_n 2, 1) := by decide +kernel
theorem dX1_reaches_13 : decode cX1_reaches 13 = .ok (.aload_n 0, 1) := by decide +kernel
theorem dX1_reaches_14 : decode cX1_reaches 14 = .ok (.getfield 20, 3) := by decide +kernel
theorem dX1_reaches_17 : decode cX1_reaches 17 = .ok (.iload_n 1, 1) := by decide +kernel
theorem dX1_reaches_18 : decode cX1_reaches 18 = .ok (.invokevirtual 26, 3) := by decide +kernel
theorem dX1_reaches_21 : decode cX1_reaches 21 = .ok (.if_icmp .gt 7, 3) := by decide +kernel
theorem dX1_reaches_24 : decode cX1_reaches 24 = .ok (.iconst 1, 1) := by decide +kernel
theorem dX1_reaches_25 : decode cX1_reaches 25 = .ok (.goto 4, 3) := by decide +kernel
theorem dX1_reaches_28 : decode cX1_reaches 28 = .ok (.iconst 0, 1) := by decide +kernel
theorem dX1_reaches_29 : decode cX1_reaches 29 = .ok (.ireturn, 1) := by decide +kernel
def pX1_reaches_b28   (v : St) : Option (Int32 × St) := some (0, v)
def pX1_reaches (a1 : Int32) (a2 : Int32) (u : St) : Option (Int32 × St) := if a2 < (rg u 18 a1) then (pX1_reaches_b28 u) else (if (rg u 19 a1) < a2 then (pX1_reaches_b28 u) else (some (1, u)))
set_option maxHeartbeats 4000000 in
set_option maxRecDepth 20000 in
theorem kX1_reaches {l : Launch} {D : va_G} {Y : Nat → ClassId} {q : Nat → Nat} {a1 a2 : Int32} {u u1 : St} {r : Int32} (hX : pX1_reaches a1 a2 u = some (r, u1)) : CMi l yX1_reaches cX1_reaches 3 (some .boolean) 1 21 D Y (wC Y q u) (wC Y q u1) [.ref (q 5), .int a1, .int a2] r := by
  refine cm_ofi (by decide) (Nat.le_of_ble_eq_true rfl) rfl (fun p e s m args below meth c A F hr hlk => ?_)
  show GW p l e { frames := 1, cells := 0, slots := 0, locals := 21 } s m args below meth c D A 3 0 0 (MQ below (QI D (wC Y q u1) r A) args s 0 0 A) (wC Y q u) 0 [(0, .ref (q 5)), (1, .int a1), (2, .int a2)] []
  have b28 : ∀   (v : St), pX1_reaches_b28  v = some (r, u1) → GW p l e { frames := 1, cells := 0, slots := 0, locals := 21 } s m args below meth c D A 3 0 0 (MQ below (QI D (wC Y q u1) r A) args s 0 0 A) (wC Y q v) 28 [] [] := by
    intro  v hX
    have hX : (some (0, v)) = some (r, u1) := hX
    refine g_iconst (v := 0) F dX1_reaches_28 (by decide) ?_
    exact g_retC (wf := wC Y q) F hr rfl hlk dX1_reaches_29 hX
  have hX : (if a2 < (rg u 18 a1) then (pX1_reaches_b28 u) else (if (rg u 19 a1) < a2 then (pX1_reaches_b28 u) else (some (1, u)))) = some (r, u1) := hX
  refine g_iload_n F dX1_reaches_0 2 rfl rfl ?_
  refine g_aload_n F dX1_reaches_1 0 rfl rfl ?_
  refine G_X1_14 F dX1_reaches_2 ?_
  refine g_iload_n F dX1_reaches_5 1 rfl rfl ?_
  refine C_rget F 18 (by decide) ml_X1_26 ⟨Nat.le_of_ble_eq_true rfl, Nat.le_of_ble_eq_true rfl⟩ (Nat.le_of_ble_eq_true rfl) dX1_reaches_6 ?_
  refine g_icmp_lt (tgt := 28) F dX1_reaches_9 (by decide) (fun c1 => ?_) (fun c1 => ?_)
  · have hX := if_t hX c1
    refine g_sub [] rfl ?_
    exact b28 u hX
  · have hX := if_f hX c1
    refine g_iload_n F dX1_reaches_12 2 rfl rfl ?_
    refine g_aload_n F dX1_reaches_13 0 rfl rfl ?_
    refine G_X1_20 F dX1_reaches_14 ?_
    refine g_iload_n F dX1_reaches_17 1 rfl rfl ?_
    refine C_rget F 19 (by decide) ml_X1_26 ⟨Nat.le_of_ble_eq_true rfl, Nat.le_of_ble_eq_true rfl⟩ (Nat.le_of_ble_eq_true rfl) dX1_reaches_18 ?_
    refine g_icmp_gt (tgt := 28) F dX1_reaches_21 (by decide) (fun c2 => ?_) (fun c2 => ?_)
    · have hX := if_t hX c2
      refine g_sub [] rfl ?_
      exact b28 u hX
    · have hX := if_f hX c2
      refine g_iconst (v := 1) F dX1_reaches_24 (by decide) ?_
      refine g_goto (tgt := 29) F dX1_reaches_25 (by decide) ?_
      exact g_retC (wf := wC Y q) F hr rfl hlk dX1_reaches_29 hX
theorem callX1_reaches {p : Program} {l : Launch} {e : Env} {R : Room} {s : State} {m : MethodId} {args : Array Value} {below : List Frame} {meth : Method} {c : Code} {D : va_G} {Y : Nat → ClassId} {A : Nat → Prop} {cc : ByteArray} {nL : Nat} {own : String} {Q : State → Prop} {pc : Nat} {lv : List (Nat × Value)} {rest : List Value} {q : Nat → Nat} {a1 a2 : Int32} {u u1 : St} {r : Int32} (F : Fx p s m args c D Y A cc nL own) (hX : pX1_reaches a1 a2 u = some (r, u1)) {index : Nat} (hml : Cond.methodLink own index yX1_reaches ∈ TBL) (hR : 1 + 1 ≤ R.frames ∧ 8 + (3 + 11) + 21 ≤ R.locals) (hcat : (rest.map fun v => v.category).sum ≤ 8) (hd : decode cc pc = .ok (.invokevirtual index, 3)) (kk : GW p l e R s m args below meth c D A nL 0 0 Q (wC Y q u1) (pc + 3) lv (.int r :: rest)) : GW p l e R s m args below meth c D A nL 0 0 Q (wC Y q u) pc lv (.int a2 :: .int a1 :: .ref (q 5) :: rest) := g_callVi (ws := wC Y q u) (n := 2) (q0 := 5) (As := [.int a1, .int a2]) F [] [] (kX1_reaches hX) (List.append_nil _).symm (List.append_nil _) (by unfold mOK; decide +kernel) rfl rfl cd_yX1_reaches hml im_yX1_reaches se_yX1_reaches in_X1 rfl rfl hR ⟨Nat.zero_le _, Nat.zero_le _⟩ rfl hcat hd kk
theorem dX2_append_0 : decode cX2_append 0 = .ok (.aload_n 0, 1) := by decide +kernel
theorem dX2_append_1 : decode cX2_append 1 = .ok (.getfield 14, 3) := by decide +kernel
theorem dX2_append_4 : decode cX2_append 4 = .ok (.aload_n 0, 1) := by decide +kernel
theorem dX2_append_5 : decode cX2_append 5 = .ok (.getfield 26, 3) := by decide +kernel
theorem dX2_append_8 : decode cX2_append 8 = .ok (.iload_n 1, 1) := by decide +kernel
theorem dX2_append_9 : decode cX2_append 9 = .ok (.invokevirtual 30, 3) := by decide +kernel
theorem dX2_append_12 : decode cX2_append 12 = .ok (.aload_n 0, 1) := by decide +kernel
theorem dX2_append_13 : decode cX2_append 13 = .ok (.getfield 20, 3) := by decide +kernel
theorem dX2_append_16 : decode cX2_append 16 = .ok (.aload_n 0, 1) := by decide +kernel
theorem dX2_append_17 : decode cX2_append 17 = .ok (.getfield 26, 3) := by decide +kernel
theorem dX2_append_20 : decode cX2_append 20 = .ok (.iload_n 2, 1) := by decide +kernel
theorem dX2_append_21 : decode cX2_append 21 = .ok (.invokevirtual 30, 3) := by decide +kernel
theorem dX2_append_24 : decode cX2_append 24 = .ok (.aload_n 0, 1) := by decide +kernel
theorem dX2_append_25 : decode cX2_append 25 = .ok (.getfield 23, 3) := by decide +kernel
theorem dX2_append_28 : decode cX2_append 28 = .ok (.aload_n 0, 1) := by decide +kernel
theorem dX2_append_29 : decode cX2_append 29 = .ok (.getfield 26, 3) := by decide +kernel
theorem dX2_append_32 : decode cX2_append 32 = .ok (.iload_n 3, 1) := by decide +kernel
theorem dX2_append_33 : decode cX2_append 33 = .ok (.invokevirtual 30, 3) := by decide +kernel
theorem dX2_append_36 : decode cX2_append 36 = .ok (.aload_n 0, 1) := by decide +kernel
theorem dX2_append_37 : decode cX2_append 37 = .ok (.dup, 1) := by decide +kernel
theorem dX2_append_38 : decode cX2_append 38 = .ok (.getfield 26, 3) := by decide +kernel
theorem dX2_append_41 : decode cX2_append 41 = .ok (.iconst 1, 1) := by decide +kernel
theorem dX2_append_42 : decode cX2_append 42 = .ok (.iadd, 1) := by decide +kernel
theorem dX2_append_43 : decode cX2_append 43 = .ok (.putfield 26, 3) := by decide +kernel
theorem dX2_append_46 : decode cX2_append 46 = .ok (.return_, 1) := by decide +kernel
def pX2_append (a1 : Int32) (a2 : Int32) (a3 : Int32) (u : St) : Option (Int32 × St) := some (0, sS (rs (rs (rs u 15 (u.2 8) a1) 16 ((rs u 15 (u.2 8) a1).2 8) a2) 17 ((rs (rs u 15 (u.2 8) a1) 16 ((rs u 15 (u.2 8) a1).2 8) a2).2 8) a3) 8 (((rs (rs (rs u 15 (u.2 8) a1) 16 ((rs u 15 (u.2 8) a1).2 8) a2) 17 ((rs (rs u 15 (u.2 8) a1) 16 ((rs u 15 (u.2 8) a1).2 8) a2).2 8) a3).2 8) + 1))
set_option maxHeartbeats 4000000 in
set_option maxRecDepth 20000 in
theorem kX2_append {l : Launch} {D : va_G} {Y : Nat → ClassId} {q : Nat → Nat} {a1 a2 a3 : Int32} {u u1 : St} {r : Int32} (hX : pX2_append a1 a2 a3 u = some (r, u1)) : CMv l yX2_append cX2_append 4 1 22 D Y (wC Y q u) (wC Y q u1) [.ref (q 4), .int a1, .int a2, .int a3] := by
  refine cm_ofv (by decide) (Nat.le_of_ble_eq_true rfl) rfl (fun p e s m args below meth c A F hr hlk => ?_)
  show GW p l e { frames := 1, cells := 0, slots := 0, locals := 22 } s m args below meth c D A 4 0 0 (MQ below (QV D (wC Y q u1) A) args s 0 0 A) (wC Y q u) 0 [(0, .ref (q 4)), (1, .int a1), (2, .int a2), (3, .int a3)] []
  have hX : (some (0, sS (rs (rs (rs u 15 (u.2 8) a1) 16 ((rs u 15 (u.2 8) a1).2 8) a2) 17 ((rs (rs u 15 (u.2 8) a1) 16 ((rs u 15 (u.2 8) a1).2 8) a2).2 8) a3) 8 (((rs (rs (rs u 15 (u.2 8) a1) 16 ((rs u 15 (u.2 8) a1).2 8) a2) 17 ((rs (rs u 15 (u.2 8) a1) 16 ((rs u 15 (u.2 8) a1).2 8) a2).2 8) a3).2 8) + 1))) = some (r, u1) := hX
  refine g_aload_n F dX2_append_0 0 rfl rfl ?_
  refine G_X2_14 F dX2_append_1 ?_
  refine g_aload_n F dX2_append_4 0 rfl rfl ?_
  refine G_X2_26 F dX2_append_5 ?_
  refine g_iload_n F dX2_append_8 1 rfl rfl ?_
  refine C_rset F 15 (by decide) ml_X2_30 ⟨Nat.le_of_ble_eq_true rfl, Nat.le_of_ble_eq_true rfl⟩ (Nat.le_of_ble_eq_true rfl) dX2_append_9 ?_
  refine g_aload_n F dX2_append_12 0 rfl rfl ?_
  refine G_X2_20 F dX2_append_13 ?_
  refine g_aload_n F dX2_append_16 0 rfl rfl ?_
  refine G_X2_26 F dX2_append_17 ?_
  refine g_iload_n F dX2_append_20 2 rfl rfl ?_
  refine C_rset F 16 (by decide) ml_X2_30 ⟨Nat.le_of_ble_eq_true rfl, Nat.le_of_ble_eq_true rfl⟩ (Nat.le_of_ble_eq_true rfl) dX2_append_21 ?_
  refine g_aload_n F dX2_append_24 0 rfl rfl ?_
  refine G_X2_23 F dX2_append_25 ?_
  refine g_aload_n F dX2_append_28 0 rfl rfl ?_
  refine G_X2_26 F dX2_append_29 ?_
  refine g_iload_n F dX2_append_32 3 rfl rfl ?_
  refine C_rset F 17 (by decide) ml_X2_30 ⟨Nat.le_of_ble_eq_true rfl, Nat.le_of_ble_eq_true rfl⟩ (Nat.le_of_ble_eq_true rfl) dX2_append_33 ?_
  refine g_aload_n F dX2_append_36 0 rfl rfl ?_
  refine g_dup F dX2_append_37 rfl ?_
  refine G_X2_26 F dX2_append_38 ?_
  refine g_iconst (v := 1) F dX2_append_41 (by decide) ?_
  refine g_iadd F dX2_append_42 ?_
  refine P_X2_26 F dX2_append_43 ?_
  exact g_retV (wf := wC Y q) F hr hlk dX2_append_46 hX
theorem callX2_append {p : Program} {l : Launch} {e : Env} {R : Room} {s : State} {m : MethodId} {args : Array Value} {below : List Frame} {meth : Method} {c : Code} {D : va_G} {Y : Nat → ClassId} {A : Nat → Prop} {cc : ByteArray} {nL : Nat} {own : String} {Q : State → Prop} {pc : Nat} {lv : List (Nat × Value)} {rest : List Value} {q : Nat → Nat} {a1 a2 a3 : Int32} {u u1 : St} {r : Int32} (F : Fx p s m args c D Y A cc nL own) (hX : pX2_append a1 a2 a3 u = some (r, u1)) {index : Nat} (hml : Cond.methodLink own index yX2_append ∈ TBL) (hR : 1 + 1 ≤ R.frames ∧ 8 + (4 + 11) + 22 ≤ R.locals) (hcat : (rest.map fun v => v.category).sum ≤ 8) (hd : decode cc pc = .ok (.invokevirtual index, 3)) (kk : GW p l e R s m args below meth c D A nL 0 0 Q (wC Y q u1) (pc + 3) lv (rest)) : GW p l e R s m args below meth c D A nL 0 0 Q (wC Y q u) pc lv (.int a3 :: .int a2 :: .int a1 :: .ref (q 4) :: rest) := g_callVv (ws := wC Y q u) (n := 3) (q0 := 4) (As := [.int a1, .int a2, .int a3]) F [] [] (kX2_append hX) (List.append_nil _).symm (List.append_nil _) (by unfold mOK; decide +kernel) rfl rfl cd_yX2_append hml im_yX2_append se_yX2_append in_X2 rfl rfl hR ⟨Nat.zero_le _, Nat.zero_le _⟩ rfl hcat hd kk
theorem dX2_remove_0 : decode cX2_remove 0 = .ok (.aload_n 0, 1) := by decide +kernel
theorem dX2_remove_1 : decode cX2_remove 1 = .ok (.dup, 1) := by decide +kernel
theorem dX2_remove_2 : decode cX2_remove 2 = .ok (.getfield 26, 3) := by decide +kernel
theorem dX2_remove_5 : decode cX2_remove 5 = .ok (.iconst 1, 1) := by decide +kernel
theorem dX2_remove_6 : decode cX2_remove 6 = .ok (.isub, 1) := by decide +kernel
theorem dX2_remove_7 : decode cX2_remove 7 = .ok (.putfield 26, 3) := by decide +kernel
theorem dX2_remove_10 : decode cX2_remove 10 = .ok (.iload_n 1, 1) := by decide +kernel
theorem dX2_remove_11 : decode cX2_remove 11 = .ok (.istore_n 2, 1) := by decide +kernel
theorem dX2_remove_12 : decode cX2_remove 12 = .ok (.iload_n 2, 1) := by decide +kernel
theorem dX2_remove_13 : decode cX2_remove 13 = .ok (.aload_n 0, 1) := by decide +kernel
theorem dX2_remove_14 : decode cX2_remove 14 = .ok (.getfield 26, 3) := by decide +kernel
theorem dX2_remove_17 : decode cX2_remove 17 = .ok (.if_icmp .ge 63, 3) := by decide +kernel
theorem dX2_remove_20 : decode cX2_remove 20 = .ok (.aload_n 0, 1) := by decide +kernel
theorem dX2_remove_21 : decode cX2_remove 21 = .ok (.getfield 14, 3) := by decide +kernel
theorem dX2_remove_24 : decode cX2_remove 24 = .ok (.iload_n 2, 1) := by decide +kernel
theorem dX2_remove_25 : decode cX2_remove 25 = .ok (.aload_n 0, 1) := by decide +kernel
theorem dX2_remove_26 : decode cX2_remove 26 = .ok (.getfield 14, 3) := by decide +kernel
theorem dX2_remove_29 : decode cX2_remove 29 = .ok (.iload_n 2, 1) := by decide +kernel
theorem dX2_remove_30 : decode cX2_remove 30 = .ok (.iconst 1, 1) := by decide +kernel
theorem dX2_remove_31 : decode cX2_remove 31 = .ok (.iadd, 1) := by decide +kernel
theorem dX2_remove_32 : decode cX2_remove 32 = .ok (.invokevirtual 33, 3) := by decide +kernel
theorem dX2_remove_35 : decode cX2_remove 35 = .ok (.invokevirtual 30, 3) := by decide +kernel
theorem dX2_remove_38 : decode cX2_remove 38 = .ok (.aload_n 0, 1) := by decide +kernel
theorem dX2_remove_39 : decode cX2_remove 39 = .ok (.getfield 20, 3) := by decide +kernel
theorem dX2_remove_42 : decode cX2_remove 42 = .ok (.iload_n 2, 1) := by decide +kernel
theorem dX2_remove_43 : decode cX2_remove 43 = .ok (.aload_n 0, 1) := by decide +kernel
theorem dX2_remove_44 : decode cX2_remove 44 = .ok (.getfield 20, 3) := by decide +kernel
theorem dX2_remove_47 : decode cX2_remove 47 = .ok (.iload_n 2, 1) := by decide +kernel
theorem dX2_remove_48 : decode cX2_remove 48 = .ok (.iconst 1, 1) := by decide +kernel
theorem dX2_remove_49 : decode cX2_remove 49 = .ok (.iadd, 1) := by decide +kernel
theorem dX2_remove_50 : decode cX2_remove 50 = .ok (.invokevirtual 33, 3) := by decide +kernel
theorem dX2_remove_53 : decode cX2_remove 53 = .ok (.invokevirtual 30, 3) := by decide +kernel
theorem dX2_remove_56 : decode cX2_remove 56 = .ok (.aload_n 0, 1) := by decide +kernel
theorem dX2_remove_57 : decode cX2_remove 57 = .ok (.getfield 23, 3) := by decide +kernel
theorem dX2_remove_60 : decode cX2_remove 60 = .ok (.iload_n 2, 1) := by decide +kernel
theorem dX2_remove_61 : decode cX2_remove 61 = .ok (.aload_n 0, 1) := by decide +kernel
theorem dX2_remove_62 : decode cX2_remove 62 = .ok (.getfield 23, 3) := by decide +kernel
theorem dX2_remove_65 : decode cX2_remove 65 = .ok (.iload_n 2, 1) := by decide +kernel
theorem dX2_remove_66 : decode cX2_remove 66 = .ok (.iconst 1, 1) := by decide +kernel
theorem dX2_remove_67 : decode cX2_remove 67 = .ok (.iadd, 1) := by decide +kernel
theorem dX2_remove_68 : decode cX2_remove 68 = .ok (.invokevirtual 33, 3) := by decide +kernel
theorem dX2_remove_71 : decode cX2_remove 71 = .ok (.invokevirtual 30, 3) := by decide +kernel
theorem dX2_remove_74 : decode cX2_remove 74 = .ok (.iinc 2 1, 3) := by decide +kernel
theorem dX2_remove_77 : decode cX2_remove 77 = .ok (.goto (-65), 3) := by decide +kernel
theorem dX2_remove_80 : decode cX2_remove 80 = .ok (.return_, 1) := by decide +kernel
def pX2_remove_b12  (n : Nat) : Int32 → St → Option (Int32 × St) := Nat.rec (fun _ _ => none) (fun _ K12 x2 v => if (v.2 8) ≤ x2 then (some (0, v)) else (K12 (x2 + 1) (rs (rs (rs v 15 x2 (rg v 15 (x2 + 1))) 16 x2 (rg (rs v 15 x2 (rg v 15 (x2 + 1))) 16 (x2 + 1))) 17 x2 (rg (rs (rs v 15 x2 (rg v 15 (x2 + 1))) 16 x2 (rg (rs v 15 x2 (rg v 15 (x2 + 1))) 16 (x2 + 1))) 17 (x2 + 1))))) n
def pX2_remove (a1 : Int32) (u : St) : Option (Int32 × St) := pX2_remove_b12 100 a1 (sS u 8 ((u.2 8) - 1))
set_option maxHeartbeats 4000000 in
set_option maxRecDepth 20000 in
theorem kX2_remove {l : Launch} {D : va_G} {Y : Nat → ClassId} {q : Nat → Nat} {a1 : Int32} {u u1 : St} {r : Int32} (hX : pX2_remove a1 u = some (r, u1)) : CMv l yX2_remove cX2_remove 3 1 22 D Y (wC Y q u) (wC Y q u1) [.ref (q 4), .int a1] := by
  refine cm_ofv (by decide) (Nat.le_of_ble_eq_true rfl) rfl (fun p e s m args below meth c A F hr hlk => ?_)
  show GW p l e { frames := 1, cells := 0, slots := 0, locals := 22 } s m args below meth c D A 3 0 0 (MQ below (QV D (wC Y q u1) A) args s 0 0 A) (wC Y q u) 0 [(0, .ref (q 4)), (1, .int a1)] []
  have b12 : ∀  (n : Nat) (x2 : Int32) (v : St), pX2_remove_b12  n x2 v = some (r, u1) → GW p l e { frames := 1, cells := 0, slots := 0, locals := 22 } s m args below meth c D A 3 0 0 (MQ below (QV D (wC Y q u1) A) args s 0 0 A) (wC Y q v) 12 [(0, .ref (q 4)), (2, .int x2)] [] := by
    intro  n
    induction n with
    | zero => intro x2 v hX; cases hX
    | succ n ih =>
      intro x2 v hX
      obtain ⟨K12, eK⟩ : ∃ K : Int32 → St → Option (Int32 × St), K = pX2_remove_b12  n := ⟨_, rfl⟩
      have hK12 : ∀ (x2 : Int32) (v : St), K12 x2 v = some (r, u1) → GW p l e { frames := 1, cells := 0, slots := 0, locals := 22 } s m args below meth c D A 3 0 0 (MQ below (QV D (wC Y q u1) A) args s 0 0 A) (wC Y q v) 12 [(0, .ref (q 4)), (2, .int x2)] [] := by rw [eK]; exact ih
      have hX : (if (v.2 8) ≤ x2 then (some (0, v)) else (K12 (x2 + 1) (rs (rs (rs v 15 x2 (rg v 15 (x2 + 1))) 16 x2 (rg (rs v 15 x2 (rg v 15 (x2 + 1))) 16 (x2 + 1))) 17 x2 (rg (rs (rs v 15 x2 (rg v 15 (x2 + 1))) 16 x2 (rg (rs v 15 x2 (rg v 15 (x2 + 1))) 16 (x2 + 1))) 17 (x2 + 1))))) = some (r, u1) := by rw [eK]; exact hX
      refine g_iload_n F dX2_remove_12 1 rfl rfl ?_
      refine g_aload_n F dX2_remove_13 0 rfl rfl ?_
      refine G_X2_26 F dX2_remove_14 ?_
      refine g_icmp_ge (tgt := 80) F dX2_remove_17 (by decide) (fun c1 => ?_) (fun c1 => ?_)
      · have hX := if_t hX c1
        exact g_retV (wf := wC Y q) F hr hlk dX2_remove_80 hX
      · have hX := if_f hX c1
        refine g_aload_n F dX2_remove_20 0 rfl rfl ?_
        refine G_X2_14 F dX2_remove_21 ?_
        refine g_iload_n F dX2_remove_24 1 rfl rfl ?_
        refine g_aload_n F dX2_remove_25 0 rfl rfl ?_
        refine G_X2_14 F dX2_remove_26 ?_
        refine g_iload_n F dX2_remove_29 1 rfl rfl ?_
        refine g_iconst (v := 1) F dX2_remove_30 (by decide) ?_
        refine g_iadd F dX2_remove_31 ?_
        refine C_rget F 15 (by decide) ml_X2_33 ⟨Nat.le_of_ble_eq_true rfl, Nat.le_of_ble_eq_true rfl⟩ (Nat.le_of_ble_eq_true rfl) dX2_remove_32 ?_
        refine C_rset F 15 (by decide) ml_X2_30 ⟨Nat.le_of_ble_eq_true rfl, Nat.le_of_ble_eq_true rfl⟩ (Nat.le_of_ble_eq_true rfl) dX2_remove_35 ?_
        refine g_aload_n F dX2_remove_38 0 rfl rfl ?_
        refine G_X2_20 F dX2_remove_39 ?_
        refine g_iload_n F dX2_remove_42 1 rfl rfl ?_
        refine g_aload_n F dX2_remove_43 0 rfl rfl ?_
        refine G_X2_20 F dX2_remove_44 ?_
        refine g_iload_n F dX2_remove_47 1 rfl rfl ?_
        refine g_iconst (v := 1) F dX2_remove_48 (by decide) ?_
        refine g_iadd F dX2_remove_49 ?_
        refine C_rget F 16 (by decide) ml_X2_33 ⟨Nat.le_of_ble_eq_true rfl, Nat.le_of_ble_eq_true rfl⟩ (Nat.le_of_ble_eq_true rfl) dX2_remove_50 ?_
        refine C_rset F 16 (by decide) ml_X2_30 ⟨Nat.le_of_ble_eq_true rfl, Nat.le_of_ble_eq_true rfl⟩ (Nat.le_of_ble_eq_true rfl) dX2_remove_53 ?_
        refine g_aload_n F dX2_remove_56 0 rfl rfl ?_
        refine G_X2_23 F dX2_remove_57 ?_
        refine g_iload_n F dX2_remove_60 1 rfl rfl ?_
        refine g_aload_n F dX2_remove_61 0 rfl rfl ?_
        refine G_X2_23 F dX2_remove_62 ?_
        refine g_iload_n F dX2_remove_65 1 rfl rfl ?_
        refine g_iconst (v := 1) F dX2_remove_66 (by decide) ?_
        refine g_iadd F dX2_remove_67 ?_
        refine C_rget F 17 (by decide) ml_X2_33 ⟨Nat.le_of_ble_eq_true rfl, Nat.le_of_ble_eq_true rfl⟩ (Nat.le_of_ble_eq_true rfl) dX2_remove_68 ?_
        refine C_rset F 17 (by decide) ml_X2_30 ⟨Nat.le_of_ble_eq_true rfl, Nat.le_of_ble_eq_true rfl⟩ (Nat.le_of_ble_eq_true rfl) dX2_remove_71 ?_
        refine g_iinc (v := x2 + 1) (lv' := [(2, .int (x2 + 1)), (0, .ref (q 4))]) F dX2_remove_74 1 rfl rfl (by decide) rfl ?_
        refine g_goto (tgt := 12) F dX2_remove_77 (by decide) ?_
        refine g_sub [1, 0] rfl ?_
        exact hK12 (x2 + 1) (rs (rs (rs v 15 x2 (rg v 15 (x2 + 1))) 16 x2 (rg (rs v 15 x2 (rg v 15 (x2 + 1))) 16 (x2 + 1))) 17 x2 (rg (rs (rs v 15 x2 (rg v 15 (x2 + 1))) 16 x2 (rg (rs v 15 x2 (rg v 15 (x2 + 1))) 16 (x2 + 1))) 17 (x2 + 1))) hX
  have hX : (pX2_remove_b12 100 a1 (sS u 8 ((u.2 8) - 1))) = some (r, u1) := hX
  refine g_aload_n F dX2_remove_0 0 rfl rfl ?_
  refine g_dup F dX2_remove_1 rfl ?_
  refine G_X2_26 F dX2_remove_2 ?_
  refine g_iconst (v := 1) F dX2_remove_5 (by decide) ?_
  refine g_isub F dX2_remove_6 ?_
  refine P_X2_26 F dX2_remove_7 ?_
  refine g_iload_n F dX2_remove_10 1 rfl rfl ?_
  refine g_istore_n (lv' := [(2, .int a1), (0, .ref (q 4)), (1, .int a1)]) F dX2_remove_11 rfl (by decide) rfl ?_
  refine g_sub [1, 0] rfl ?_
  exact b12 100 a1 (sS u 8 ((u.2 8) - 1)) hX
theorem callX2_remove {p : Program} {l : Launch} {e : Env} {R : Room} {s : State} {m : MethodId} {args : Array Value} {below : List Frame} {meth : Method} {c : Code} {D : va_G} {Y : Nat → ClassId} {A : Nat → Prop} {cc : ByteArray} {nL : Nat} {own : String} {Q : State → Prop} {pc : Nat} {lv : List (Nat × Value)} {rest : List Value} {q : Nat → Nat} {a1 : Int32} {u u1 : St} {r : Int32} (F : Fx p s m args c D Y A cc nL own) (hX : pX2_remove a1 u = some (r, u1)) {index : Nat} (hml : Cond.methodLink own index yX2_remove ∈ TBL) (hR : 1 + 1 ≤ R.frames ∧ 8 + (3 + 11) + 22 ≤ R.locals) (hcat : (rest.map fun v => v.category).sum ≤ 8) (hd : decode cc pc = .ok (.invokevirtual index, 3)) (kk : GW p l e R s m args below meth c D A nL 0 0 Q (wC Y q u1) (pc + 3) lv (rest)) : GW p l e R s m args below meth c D A nL 0 0 Q (wC Y q u) pc lv (.int a1 :: .ref (q 4) :: rest) := g_callVv (ws := wC Y q u) (n := 1) (q0 := 4) (As := [.int a1]) F [] [] (kX2_remove hX) (List.append_nil _).symm (List.append_nil _) (by unfold mOK; decide +kernel) rfl rfl cd_yX2_remove hml im_yX2_remove se_yX2_remove in_X2 rfl rfl hR ⟨Nat.zero_le _, Nat.zero_le _⟩ rfl hcat hd kk
theorem dX4_boxIn_0 : decode cX4_boxIn 0 = .ok (.aload_n 0, 1) := by decide +kernel
theorem dX4_boxIn_1 : decode cX4_boxIn 1 = .ok (.getfield 29, 3) := by decide +kernel
theorem dX4_boxIn_4 : decode cX4_boxIn 4 = .ok (.iload_n 1, 1) := by decide +kernel
theorem dX4_boxIn_5 : decode cX4_boxIn 5 = .ok (.invokestatic 35, 3) := by decide +kernel
theorem dX4_boxIn_8 : decode cX4_boxIn 8 = .ok (.invokevirtual 39, 3) := by decide +kernel
theorem dX4_boxIn_11 : decode cX4_boxIn 11 = .ok (.ireturn, 1) := by decide +kernel
def pX4_boxIn (a1 : Int32) (u : St) : Option (Int32 × St) := some (rg u 13 (pX4_cellOf a1), u)
set_option maxHeartbeats 4000000 in
set_option maxRecDepth 20000 in
theorem kX4_boxIn {l : Launch} {D : va_G} {Y : Nat → ClassId} {q : Nat → Nat} {a1 : Int32} {u u1 : St} {r : Int32} (hX : pX4_boxIn a1 u = some (r, u1)) : CMi l yX4_boxIn cX4_boxIn 2 (some .int) 1 21 D Y (wC Y q u) (wC Y q u1) [.ref (q 3), .int a1] r := by
  refine cm_ofi (by decide) (Nat.le_of_ble_eq_true rfl) rfl (fun p e s m args below meth c A F hr hlk => ?_)
  show GW p l e { frames := 1, cells := 0, slots := 0, locals := 21 } s m args below meth c D A 2 0 0 (MQ below (QI D (wC Y q u1) r A) args s 0 0 A) (wC Y q u) 0 [(0, .ref (q 3)), (1, .int a1)] []
  have hX : (some (rg u 13 (pX4_cellOf a1), u)) = some (r, u1) := hX
  refine g_aload_n F dX4_boxIn_0 0 rfl rfl ?_
  refine G_X4_29 F dX4_boxIn_1 ?_
  refine g_iload_n F dX4_boxIn_4 1 rfl rfl ?_
  refine callX4_cellOf F ml_X4_35 ⟨Nat.le_of_ble_eq_true rfl, Nat.le_of_ble_eq_true rfl⟩ (Nat.le_of_ble_eq_true rfl) dX4_boxIn_5 ?_
  refine C_rget F 13 (by decide) ml_X4_39 ⟨Nat.le_of_ble_eq_true rfl, Nat.le_of_ble_eq_true rfl⟩ (Nat.le_of_ble_eq_true rfl) dX4_boxIn_8 ?_
  exact g_retC (wf := wC Y q) F hr rfl hlk dX4_boxIn_11 hX
theorem callX4_boxIn {p : Program} {l : Launch} {e : Env} {R : Room} {s : State} {m : MethodId} {args : Array Value} {below : List Frame} {meth : Method} {c : Code} {D : va_G} {Y : Nat → ClassId} {A : Nat → Prop} {cc : ByteArray} {nL : Nat} {own : String} {Q : State → Prop} {pc : Nat} {lv : List (Nat × Value)} {rest : List Value} {q : Nat → Nat} {a1 : Int32} {u u1 : St} {r : Int32} (F : Fx p s m args c D Y A cc nL own) (hX : pX4_boxIn a1 u = some (r, u1)) {index : Nat} (hml : Cond.methodLink own index yX4_boxIn ∈ TBL) (hR : 1 + 1 ≤ R.frames ∧ 8 + (2 + 11) + 21 ≤ R.locals) (hcat : (rest.map fun v => v.category).sum ≤ 8) (hd : decode cc pc = .ok (.invokevirtual index, 3)) (kk : GW p l e R s m args below meth c D A nL 0 0 Q (wC Y q u1) (pc + 3) lv (.int r :: rest)) : GW p l e R s m args below meth c D A nL 0 0 Q (wC Y q u) pc lv (.int a1 :: .ref (q 3) :: rest) := g_callVi (ws := wC Y q u) (n := 1) (q0 := 3) (As := [.int a1]) F [] [] (kX4_boxIn hX) (List.append_nil _).symm (List.append_nil _) (by unfold mOK; decide +kernel) rfl rfl cd_yX4_boxIn hml im_yX4_boxIn se_yX4_boxIn in_X4 rfl rfl hR ⟨Nat.zero_le _, Nat.zero_le _⟩ rfl hcat hd kk
theorem dX4_boxOver_0 : decode cX4_boxOver 0 = .ok (.iload_n 1, 1) := by decide +kernel
theorem dX4_boxOver_1 : decode cX4_boxOver 1 = .ok (.invokestatic 42, 3) := by decide +kernel
theorem dX4_boxOver_4 : decode cX4_boxOver 4 = .ok (.ifCond .eq 7, 3) := by decide +kernel
theorem dX4_boxOver_7 : decode cX4_boxOver 7 = .ok (.iconst (-1), 1) := by decide +kernel
theorem dX4_boxOver_8 : decode cX4_boxOver 8 = .ok (.goto 16, 3) := by decide +kernel
theorem dX4_boxOver_11 : decode cX4_boxOver 11 = .ok (.aload_n 0, 1) := by decide +kernel
theorem dX4_boxOver_12 : decode cX4_boxOver 12 = .ok (.getfield 29, 3) := by decide +kernel
theorem dX4_boxOver_15 : decode cX4_boxOver 15 = .ok (.iload_n 1, 1) := by decide +kernel
theorem dX4_boxOver_16 : decode cX4_boxOver 16 = .ok (.iconst 1, 1) := by decide +kernel
theorem dX4_boxOver_17 : decode cX4_boxOver 17 = .ok (.iadd, 1) := by decide +kernel
theorem dX4_boxOver_18 : decode cX4_boxOver 18 = .ok (.invokestatic 35, 3) := by decide +kernel
theorem dX4_boxOver_21 : decode cX4_boxOver 21 = .ok (.invokevirtual 39, 3) := by decide +kernel
theorem dX4_boxOver_24 : decode cX4_boxOver 24 = .ok (.ireturn, 1) := by decide +kernel
def pX4_boxOver (a1 : Int32) (u : St) : Option (Int32 × St) := if (pX6_restsOnBox a1) = 0 then (some (rg u 13 (pX4_cellOf (a1 + 1)), u)) else (some ((-1), u))
set_option maxHeartbeats 4000000 in
set_option maxRecDepth 20000 in
theorem kX4_boxOver {l : Launch} {D : va_G} {Y : Nat → ClassId} {q : Nat → Nat} {a1 : Int32} {u u1 : St} {r : Int32} (hX : pX4_boxOver a1 u = some (r, u1)) : CMi l yX4_boxOver cX4_boxOver 2 (some .int) 2 40 D Y (wC Y q u) (wC Y q u1) [.ref (q 3), .int a1] r := by
  refine cm_ofi (by decide) (Nat.le_of_ble_eq_true rfl) rfl (fun p e s m args below meth c A F hr hlk => ?_)
  show GW p l e { frames := 2, cells := 0, slots := 0, locals := 40 } s m args below meth c D A 2 0 0 (MQ below (QI D (wC Y q u1) r A) args s 0 0 A) (wC Y q u) 0 [(0, .ref (q 3)), (1, .int a1)] []
  have hX : (if (pX6_restsOnBox a1) = 0 then (some (rg u 13 (pX4_cellOf (a1 + 1)), u)) else (some ((-1), u))) = some (r, u1) := hX
  refine g_iload_n F dX4_boxOver_0 1 rfl rfl ?_
  refine callNX6_restsOnBox F F.2.2.2.2.2.1.2.1 ⟨Nat.le_of_ble_eq_true rfl, Nat.le_of_ble_eq_true rfl⟩ (Nat.le_of_ble_eq_true rfl) dX4_boxOver_1 ?_
  refine g_if_eq (tgt := 11) F dX4_boxOver_4 (by decide) (fun c1 => ?_) (fun c1 => ?_)
  · have hX := if_t hX c1
    refine g_aload_n F dX4_boxOver_11 0 rfl rfl ?_
    refine G_X4_29 F dX4_boxOver_12 ?_
    refine g_iload_n F dX4_boxOver_15 1 rfl rfl ?_
    refine g_iconst (v := 1) F dX4_boxOver_16 (by decide) ?_
    refine g_iadd F dX4_boxOver_17 ?_
    refine callX4_cellOf F ml_X4_35 ⟨Nat.le_of_ble_eq_true rfl, Nat.le_of_ble_eq_true rfl⟩ (Nat.le_of_ble_eq_true rfl) dX4_boxOver_18 ?_
    refine C_rget F 13 (by decide) ml_X4_39 ⟨Nat.le_of_ble_eq_true rfl, Nat.le_of_ble_eq_true rfl⟩ (Nat.le_of_ble_eq_true rfl) dX4_boxOver_21 ?_
    exact g_retC (wf := wC Y q) F hr rfl hlk dX4_boxOver_24 hX
  · have hX := if_f hX c1
    refine g_iconst (v := (-1)) F dX4_boxOver_7 (by decide) ?_
    refine g_goto (tgt := 24) F dX4_boxOver_8 (by decide) ?_
    exact g_retC (wf := wC Y q) F hr rfl hlk dX4_boxOver_24 hX
theorem callX4_boxOver {p : Program} {l : Launch} {e : Env} {R : Room} {s : State} {m : MethodId} {args : Array Value} {below : List Frame} {meth : Method} {c : Code} {D : va_G} {Y : Nat → ClassId} {A : Nat → Prop} {cc : ByteArray} {nL : Nat} {own : String} {Q : State → Prop} {pc : Nat} {lv : List (Nat × Value)} {rest : List Value} {q : Nat → Nat} {a1 : Int32} {u u1 : St} {r : Int32} (F : Fx p s m args c D Y A cc nL own) (hX : pX4_boxOver a1 u = some (r, u1)) {index : Nat} (hml : Cond.methodLink own index yX4_boxOver ∈ TBL) (hR : 2 + 1 ≤ R.frames ∧ 8 + (2 + 11) + 40 ≤ R.locals) (hcat : (rest.map fun v => v.category).sum ≤ 8) (hd : decode cc pc = .ok (.invokevirtual index, 3)) (kk : GW p l e R s m args below meth c D A nL 0 0 Q (wC Y q u1) (pc + 3) lv (.int r :: rest)) : GW p l e R s m args below meth c D A nL 0 0 Q (wC Y q u) pc lv (.int a1 :: .ref (q 3) :: rest) := g_callVi (ws := wC Y q u) (n := 1) (q0 := 3) (As := [.int a1]) F [] [] (kX4_boxOver hX) (List.append_nil _).symm (List.append_nil _) (by unfold mOK; decide +kernel) rfl rfl cd_yX4_boxOver hml im_yX4_boxOver se_yX4_boxOver in_X4 rfl rfl hR ⟨Nat.zero_le _, Nat.zero_le _⟩ rfl hcat hd kk
theorem dX4_boxesOnTop_0 : decode cX4_boxesOnTop 0 = .ok (.iconst 0, 1) := by decide +kernel
theorem dX4_boxesOnTop_1 : decode cX4_boxesOnTop 1 = .ok (.istore_n 2, 1) := by decide +kernel
theorem dX4_boxesOnTop_2 : decode cX4_boxesOnTop 2 = .ok (.iconst 0, 1) := by decide +kernel
theorem dX4_boxesOnTop_3 : decode cX4_boxesOnTop 3 = .ok (.istore_n 3, 1) := by decide +kernel
theorem dX4_boxesOnTop_4 : decode cX4_boxesOnTop 4 = .ok (.iload_n 3, 1) := by decide +kernel
theorem dX4_boxesOnTop_5 : decode cX4_boxesOnTop 5 = .ok (.iconst 3, 1) := by decide +kernel
theorem dX4_boxesOnTop_6 : decode cX4_boxesOnTop 6 = .ok (.if_icmp .ge 47, 3) := by decide +kernel
theorem dX4_boxesOnTop_9 : decode cX4_boxesOnTop 9 = .ok (.iconst 2, 1) := by decide +kernel
theorem dX4_boxesOnTop_10 : decode cX4_boxesOnTop 10 = .ok (.istore 4, 2) := by decide +kernel
theorem dX4_boxesOnTop_12 : decode cX4_boxesOnTop 12 = .ok (.iload 4, 2) := by decide +kernel
theorem dX4_boxesOnTop_14 : decode cX4_boxesOnTop 14 = .ok (.iconst 4, 1) := by decide +kernel
theorem dX4_boxesOnTop_15 : decode cX4_boxesOnTop 15 = .ok (.if_icmp .ge 32, 3) := by decide +kernel
theorem dX4_boxesOnTop_18 : decode cX4_boxesOnTop 18 = .ok (.aload_n 0, 1) := by decide +kernel
theorem dX4_boxesOnTop_19 : decode cX4_boxesOnTop 19 = .ok (.bipush 100, 2) := by decide +kernel
theorem dX4_boxesOnTop_21 : decode cX4_boxesOnTop 21 = .ok (.iload_n 1, 1) := by decide +kernel
theorem dX4_boxesOnTop_22 : decode cX4_boxesOnTop 22 = .ok (.imul, 1) := by decide +kernel
theorem dX4_boxesOnTop_23 : decode cX4_boxesOnTop 23 = .ok (.bipush 10, 2) := by decide +kernel
theorem dX4_boxesOnTop_25 : decode cX4_boxesOnTop 25 = .ok (.iload_n 3, 1) := by decide +kernel
theorem dX4_boxesOnTop_26 : decode cX4_boxesOnTop 26 = .ok (.imul, 1) := by decide +kernel
theorem dX4_boxesOnTop_27 : decode cX4_boxesOnTop 27 = .ok (.iadd, 1) := by decide +kernel
theorem dX4_boxesOnTop_28 : decode cX4_boxesOnTop 28 = .ok (.iload 4, 2) := by decide +kernel
theorem dX4_boxesOnTop_30 : decode cX4_boxesOnTop 30 = .ok (.iadd, 1) := by decide +kernel
theorem dX4_boxesOnTop_31 : decode cX4_boxesOnTop 31 = .ok (.invokevirtual 46, 3) := by decide +kernel
theorem dX4_boxesOnTop_34 : decode cX4_boxesOnTop 34 = .ok (.iconst (-1), 1) := by decide +kernel
theorem dX4_boxesOnTop_35 : decode cX4_boxesOnTop 35 = .ok (.if_icmp .eq 6, 3) := by decide +kernel
theorem dX4_boxesOnTop_38 : decode cX4_boxesOnTop 38 = .ok (.iinc 2 1, 3) := by decide +kernel
theorem dX4_boxesOnTop_41 : decode cX4_boxesOnTop 41 = .ok (.iinc 4 1, 3) := by decide +kernel
theorem dX4_boxesOnTop_44 : decode cX4_boxesOnTop 44 = .ok (.goto (-32), 3) := by decide +kernel
theorem dX4_boxesOnTop_47 : decode cX4_boxesOnTop 47 = .ok (.iinc 3 1, 3) := by decide +kernel
theorem dX4_boxesOnTop_50 : decode cX4_boxesOnTop 50 = .ok (.goto (-46), 3) := by decide +kernel
theorem dX4_boxesOnTop_53 : decode cX4_boxesOnTop 53 = .ok (.iload_n 2, 1) := by decide +kernel
theorem dX4_boxesOnTop_54 : decode cX4_boxesOnTop 54 = .ok (.ireturn, 1) := by decide +kernel
def pX4_boxesOnTop_b41 (K4 : Int32 → Int32 → Int32 → St → Option (Int32 × St)) (K12 : Int32 → Int32 → Int32 → Int32 → St → Option (Int32 × St)) (x1 : Int32) (x2 : Int32) (x3 : Int32) (x4 : Int32) (v : St) : Option (Int32 × St) := K12 x1 x2 x3 (x4 + 1) v
def pX4_boxesOnTop_b12 (K4 : Int32 → Int32 → Int32 → St → Option (Int32 × St)) (n : Nat) : Int32 → Int32 → Int32 → Int32 → St → Option (Int32 × St) := Nat.rec (fun _ _ _ _ _ => none) (fun _ K12 x1 x2 x3 x4 v => if 4 ≤ x4 then (K4 x1 x2 (x3 + 1) v) else (bnd (pX4_boxIn (((100 * x1) + (10 * x3)) + x4) v) (fun r3 w4 => if r3 = ((-1)) then (pX4_boxesOnTop_b41 K4 K12 x1 x2 x3 x4 w4) else (pX4_boxesOnTop_b41 K4 K12 x1 (x2 + 1) x3 x4 w4)))) n
def pX4_boxesOnTop_b4  (n : Nat) : Int32 → Int32 → Int32 → St → Option (Int32 × St) := Nat.rec (fun _ _ _ _ => none) (fun _ K4 x1 x2 x3 v => if 3 ≤ x3 then (some (x2, v)) else (pX4_boxesOnTop_b12 K4 100 x1 x2 x3 2 v)) n
def pX4_boxesOnTop (a1 : Int32) (u : St) : Option (Int32 × St) := pX4_boxesOnTop_b4 100 a1 0 0 u
set_option maxHeartbeats 4000000 in
set_option maxRecDepth 20000 in
theorem kX4_boxesOnTop {l : Launch} {D : va_G} {Y : Nat → ClassId} {q : Nat → Nat} {a1 : Int32} {u u1 : St} {r : Int32} (hX : pX4_boxesOnTop a1 u = some (r, u1)) : CMi l yX4_boxesOnTop cX4_boxesOnTop 5 (some .int) 2 42 D Y (wC Y q u) (wC Y q u1) [.ref (q 3), .int a1] r := by
  refine cm_ofi (by decide) (Nat.le_of_ble_eq_true rfl) rfl (fun p e s m args below meth c A F hr hlk => ?_)
  show GW p l e { frames := 2, cells := 0, slots := 0, locals := 42 } s m args below meth c D A 5 0 0 (MQ below (QI D (wC Y q u1) r A) args s 0 0 A) (wC Y q u) 0 [(0, .ref (q 3)), (1, .int a1)] []
  have b41 : ∀ (K4 : Int32 → Int32 → Int32 → St → Option (Int32 × St)) (hK4 : ∀ (x1 : Int32) (x2 : Int32) (x3 : Int32) (v : St), K4 x1 x2 x3 v = some (r, u1) → GW p l e { frames := 2, cells := 0, slots := 0, locals := 42 } s m args below meth c D A 5 0 0 (MQ below (QI D (wC Y q u1) r A) args s 0 0 A) (wC Y q v) 4 [(0, .ref (q 3)), (1, .int x1), (2, .int x2), (3, .int x3)] []) (K12 : Int32 → Int32 → Int32 → Int32 → St → Option (Int32 × St)) (hK12 : ∀ (x1 : Int32) (x2 : Int32) (x3 : Int32) (x4 : Int32) (v : St), K12 x1 x2 x3 x4 v = some (r, u1) → GW p l e { frames := 2, cells := 0, slots := 0, locals := 42 } s m args below meth c D A 5 0 0 (MQ below (QI D (wC Y q u1) r A) args s 0 0 A) (wC Y q v) 12 [(0, .ref (q 3)), (1, .int x1), (2, .int x2), (3, .int x3), (4, .int x4)] []) (x1 : Int32) (x2 : Int32) (x3 : Int32) (x4 : Int32) (v : St), pX4_boxesOnTop_b41 K4 K12 x1 x2 x3 x4 v = some (r, u1) → GW p l e { frames := 2, cells := 0, slots := 0, locals := 42 } s m args below meth c D A 5 0 0 (MQ below (QI D (wC Y q u1) r A) args s 0 0 A) (wC Y q v) 41 [(0, .ref (q 3)), (1, .int x1), (2, .int x2), (3, .int x3), (4, .int x4)] [] := by
    intro K4 hK4 K12 hK12 x1 x2 x3 x4 v hX
    have hX : (K12 x1 x2 x3 (x4 + 1) v) = some (r, u1) := hX
    refine g_iinc (v := x4 + 1) (lv' := [(4, .int (x4 + 1)), (0, .ref (q 3)), (1, .int x1), (2, .int x2), (3, .int x3)]) F dX4_boxesOnTop_41 4 rfl rfl (by decide) rfl ?_
    refine g_goto (tgt := 12) F dX4_boxesOnTop_44 (by decide) ?_
    refine g_sub [1, 2, 3, 4, 0] rfl ?_
    exact hK12 x1 x2 x3 (x4 + 1) v hX
  have b12 : ∀ (K4 : Int32 → Int32 → Int32 → St → Option (Int32 × St)) (hK4 : ∀ (x1 : Int32) (x2 : Int32) (x3 : Int32) (v : St), K4 x1 x2 x3 v = some (r, u1) → GW p l e { frames := 2, cells := 0, slots := 0, locals := 42 } s m args below meth c D A 5 0 0 (MQ below (QI D (wC Y q u1) r A) args s 0 0 A) (wC Y q v) 4 [(0, .ref (q 3)), (1, .int x1), (2, .int x2), (3, .int x3)] []) (n : Nat) (x1 : Int32) (x2 : Int32) (x3 : Int32) (x4 : Int32) (v : St), pX4_boxesOnTop_b12 K4 n x1 x2 x3 x4 v = some (r, u1) → GW p l e { frames := 2, cells := 0, slots := 0, locals := 42 } s m args below meth c D A 5 0 0 (MQ below (QI D (wC Y q u1) r A) args s 0 0 A) (wC Y q v) 12 [(0, .ref (q 3)), (1, .int x1), (2, .int x2), (3, .int x3), (4, .int x4)] [] := by
    intro K4 hK4 n
    induction n with
    | zero => intro x1 x2 x3 x4 v hX; cases hX
    | succ n ih =>
      intro x1 x2 x3 x4 v hX
      obtain ⟨K12, eK⟩ : ∃ K : Int32 → Int32 → Int32 → Int32 → St → Option (Int32 × St), K = pX4_boxesOnTop_b12 K4 n := ⟨_, rfl⟩
      have hK12 : ∀ (x1 : Int32) (x2 : Int32) (x3 : Int32) (x4 : Int32) (v : St), K12 x1 x2 x3 x4 v = some (r, u1) → GW p l e { frames := 2, cells := 0, slots := 0, locals := 42 } s m args below meth c D A 5 0 0 (MQ below (QI D (wC Y q u1) r A) args s 0 0 A) (wC Y q v) 12 [(0, .ref (q 3)), (1, .int x1), (2, .int x2), (3, .int x3), (4, .int x4)] [] := by rw [eK]; exact ih
      have hX : (if 4 ≤ x4 then (K4 x1 x2 (x3 + 1) v) else (bnd (pX4_boxIn (((100 * x1) + (10 * x3)) + x4) v) (fun r3 w4 => if r3 = ((-1)) then (pX4_boxesOnTop_b41 K4 K12 x1 x2 x3 x4 w4) else (pX4_boxesOnTop_b41 K4 K12 x1 (x2 + 1) x3 x4 w4)))) = some (r, u1) := by rw [eK]; exact hX
      refine g_iload F dX4_boxesOnTop_12 4 rfl ?_
      refine g_iconst (v := 4) F dX4_boxesOnTop_14 (by decide) ?_
      refine g_icmp_ge (tgt := 47) F dX4_boxesOnTop_15 (by decide) (fun c2 => ?_) (fun c2 => ?_)
      · have hX := if_t hX c2
        refine g_iinc (v := x3 + 1) (lv' := [(3, .int (x3 + 1)), (0, .ref (q 3)), (1, .int x1), (2, .int x2), (4, .int x4)]) F dX4_boxesOnTop_47 3 rfl rfl (by decide) rfl ?_
        refine g_goto (tgt := 4) F dX4_boxesOnTop_50 (by decide) ?_
        refine g_sub [1, 2, 3, 0] rfl ?_
        exact hK4 x1 x2 (x3 + 1) v hX
      · have hX := if_f hX c2
        refine g_aload_n F dX4_boxesOnTop_18 0 rfl rfl ?_
        refine g_bipush (v := 100) F dX4_boxesOnTop_19 (by decide) ?_
        refine g_iload_n F dX4_boxesOnTop_21 1 rfl rfl ?_
        refine g_imul F dX4_boxesOnTop_22 ?_
        refine g_bipush (v := 10) F dX4_boxesOnTop_23 (by decide) ?_
        refine g_iload_n F dX4_boxesOnTop_25 3 rfl rfl ?_
        refine g_imul F dX4_boxesOnTop_26 ?_
        refine g_iadd F dX4_boxesOnTop_27 ?_
        refine g_iload F dX4_boxesOnTop_28 4 rfl ?_
        refine g_iadd F dX4_boxesOnTop_30 ?_
        obtain ⟨r3, w4, hc5, hX⟩ := bnd_s hX
        refine callX4_boxIn F hc5 ml_X4_46 ⟨Nat.le_of_ble_eq_true rfl, Nat.le_of_ble_eq_true rfl⟩ (Nat.le_of_ble_eq_true rfl) dX4_boxesOnTop_31 ?_
        refine g_iconst (v := (-1)) F dX4_boxesOnTop_34 (by decide) ?_
        refine g_icmp_eq (tgt := 41) F dX4_boxesOnTop_35 (by decide) (fun c6 => ?_) (fun c6 => ?_)
        · have hX := if_t hX c6
          exact b41 K4 hK4 K12 hK12 x1 x2 x3 x4 w4 hX
        · have hX := if_f hX c6
          refine g_iinc (v := x2 + 1) (lv' := [(2, .int (x2 + 1)), (0, .ref (q 3)), (1, .int x1), (3, .int x3), (4, .int x4)]) F dX4_boxesOnTop_38 2 rfl rfl (by decide) rfl ?_
          refine g_sub [1, 2, 0, 3, 4] rfl ?_
          exact b41 K4 hK4 K12 hK12 x1 (x2 + 1) x3 x4 w4 hX
  have b4 : ∀  (n : Nat) (x1 : Int32) (x2 : Int32) (x3 : Int32) (v : St), pX4_boxesOnTop_b4  n x1 x2 x3 v = some (r, u1) → GW p l e { frames := 2, cells := 0, slots := 0, locals := 42 } s m args below meth c D A 5 0 0 (MQ below (QI D (wC Y q u1) r A) args s 0 0 A) (wC Y q v) 4 [(0, .ref (q 3)), (1, .int x1), (2, .int x2), (3, .int x3)] [] := by
    intro  n
    induction n with
    | zero => intro x1 x2 x3 v hX; cases hX
    | succ n ih =>
      intro x1 x2 x3 v hX
      obtain ⟨K4, eK⟩ : ∃ K : Int32 → Int32 → Int32 → St → Option (Int32 × St), K = pX4_boxesOnTop_b4  n := ⟨_, rfl⟩
      have hK4 : ∀ (x1 : Int32) (x2 : Int32) (x3 : Int32) (v : St), K4 x1 x2 x3 v = some (r, u1) → GW p l e { frames := 2, cells := 0, slots := 0, locals := 42 } s m args below meth c D A 5 0 0 (MQ below (QI D (wC Y q u1) r A) args s 0 0 A) (wC Y q v) 4 [(0, .ref (q 3)), (1, .int x1), (2, .int x2), (3, .int x3)] [] := by rw [eK]; exact ih
      have hX : (if 3 ≤ x3 then (some (x2, v)) else (pX4_boxesOnTop_b12 K4 100 x1 x2 x3 2 v)) = some (r, u1) := by rw [eK]; exact hX
      refine g_iload_n F dX4_boxesOnTop_4 3 rfl rfl ?_
      refine g_iconst (v := 3) F dX4_boxesOnTop_5 (by decide) ?_
      refine g_icmp_ge (tgt := 53) F dX4_boxesOnTop_6 (by decide) (fun c1 => ?_) (fun c1 => ?_)
      · have hX := if_t hX c1
        refine g_iload_n F dX4_boxesOnTop_53 2 rfl rfl ?_
        exact g_retC (wf := wC Y q) F hr rfl hlk dX4_boxesOnTop_54 hX
      · have hX := if_f hX c1
        refine g_iconst (v := 2) F dX4_boxesOnTop_9 (by decide) ?_
        refine g_istore (lv' := [(4, .int 2), (0, .ref (q 3)), (1, .int x1), (2, .int x2), (3, .int x3)]) F dX4_boxesOnTop_10 (by decide) rfl ?_
        refine g_sub [1, 2, 3, 4, 0] rfl ?_
        exact b12 K4 hK4 100 x1 x2 x3 2 v hX
  have hX : (pX4_boxesOnTop_b4 100 a1 0 0 u) = some (r, u1) := hX
  refine g_iconst (v := 0) F dX4_boxesOnTop_0 (by decide) ?_
  refine g_istore_n (lv' := [(2, .int 0), (0, .ref (q 3)), (1, .int a1)]) F dX4_boxesOnTop_1 rfl (by decide) rfl ?_
  refine g_iconst (v := 0) F dX4_boxesOnTop_2 (by decide) ?_
  refine g_istore_n (lv' := [(3, .int 0), (2, .int 0), (0, .ref (q 3)), (1, .int a1)]) F dX4_boxesOnTop_3 rfl (by decide) rfl ?_
  refine g_sub [2, 3, 1, 0] rfl ?_
  exact b4 100 a1 0 0 u hX
theorem callX4_boxesOnTop {p : Program} {l : Launch} {e : Env} {R : Room} {s : State} {m : MethodId} {args : Array Value} {below : List Frame} {meth : Method} {c : Code} {D : va_G} {Y : Nat → ClassId} {A : Nat → Prop} {cc : ByteArray} {nL : Nat} {own : String} {Q : State → Prop} {pc : Nat} {lv : List (Nat × Value)} {rest : List Value} {q : Nat → Nat} {a1 : Int32} {u u1 : St} {r : Int32} (F : Fx p s m args c D Y A cc nL own) (hX : pX4_boxesOnTop a1 u = some (r, u1)) {index : Nat} (hml : Cond.methodLink own index yX4_boxesOnTop ∈ TBL) (hR : 2 + 1 ≤ R.frames ∧ 8 + (5 + 11) + 42 ≤ R.locals) (hcat : (rest.map fun v => v.category).sum ≤ 8) (hd : decode cc pc = .ok (.invokevirtual index, 3)) (kk : GW p l e R s m args below meth c D A nL 0 0 Q (wC Y q u1) (pc + 3) lv (.int r :: rest)) : GW p l e R s m args below meth c D A nL 0 0 Q (wC Y q u) pc lv (.int a1 :: .ref (q 3) :: rest) := g_callVi (ws := wC Y q u) (n := 1) (q0 := 3) (As := [.int a1]) F [] [] (kX4_boxesOnTop hX) (List.append_nil _).symm (List.append_nil _) (by unfold mOK; decide +kernel) rfl rfl cd_yX4_boxesOnTop hml im_yX4_boxesOnTop se_yX4_boxesOnTop in_X4 rfl rfl hR ⟨Nat.zero_le _, Nat.zero_le _⟩ rfl hcat hd kk
theorem dX4_isOpen_0 : decode cX4_isOpen 0 = .ok (.aload_n 0, 1) := by decide +kernel
theorem dX4_isOpen_1 : decode cX4_isOpen 1 = .ok (.getfield 14, 3) := by decide +kernel
theorem dX4_isOpen_4 : decode cX4_isOpen 4 = .ok (.iload_n 1, 1) := by decide +kernel
theorem dX4_isOpen_5 : decode cX4_isOpen 5 = .ok (.invokevirtual 39, 3) := by decide +kernel
theorem dX4_isOpen_8 : decode cX4_isOpen 8 = .ok (.iconst 1, 1) := by decide +kernel
theorem dX4_isOpen_9 : decode cX4_isOpen 9 = .ok (.if_icmp .ne 7, 3) := by decide +kernel
theorem dX4_isOpen_12 : decode cX4_isOpen 12 = .ok (.iconst 1, 1) := by decide +kernel
theorem dX4_isOpen_13 : decode cX4_isOpen 13 = .ok (.goto 4, 3) := by decide +kernel
theorem dX4_isOpen_16 : decode cX4_isOpen 16 = .ok (.iconst 0, 1) := by decide +kernel
theorem dX4_isOpen_17 : decode cX4_isOpen 17 = .ok (.ireturn, 1) := by decide +kernel
def pX4_isOpen (a1 : Int32) (u : St) : Option (Int32 × St) := if (rg u 9 a1) = 1 then (some (1, u)) else (some (0, u))
set_option maxHeartbeats 4000000 in
set_option maxRecDepth 20000 in
theorem kX4_isOpen {l : Launch} {D : va_G} {Y : Nat → ClassId} {q : Nat → Nat} {a1 : Int32} {u u1 : St} {r : Int32} (hX : pX4_isOpen a1 u = some (r, u1)) : CMi l yX4_isOpen cX4_isOpen 2 (some .boolean) 1 21 D Y (wC Y q u) (wC Y q u1) [.ref (q 3), .int a1] r := by
  refine cm_ofi (by decide) (Nat.le_of_ble_eq_true rfl) rfl (fun p e s m args below meth c A F hr hlk => ?_)
  show GW p l e { frames := 1, cells := 0, slots := 0, locals := 21 } s m args below meth c D A 2 0 0 (MQ below (QI D (wC Y q u1) r A) args s 0 0 A) (wC Y q u) 0 [(0, .ref (q 3)), (1, .int a1)] []
  have hX : (if (rg u 9 a1) = 1 then (some (1, u)) else (some (0, u))) = some (r, u1) := hX
  refine g_aload_n F dX4_isOpen_0 0 rfl rfl ?_
  refine G_X4_14 F dX4_isOpen_1 ?_
  refine g_iload_n F dX4_isOpen_4 1 rfl rfl ?_
  refine C_rget F 9 (by decide) ml_X4_39 ⟨Nat.le_of_ble_eq_true rfl, Nat.le_of_ble_eq_true rfl⟩ (Nat.le_of_ble_eq_true rfl) dX4_isOpen_5 ?_
  refine g_iconst (v := 1) F dX4_isOpen_8 (by decide) ?_
  refine g_icmp_ne (tgt := 16) F dX4_isOpen_9 (by decide) (fun c1 => ?_) (fun c1 => ?_)
  · have hX := if_f hX c1
    refine g_iconst (v := 0) F dX4_isOpen_16 (by decide) ?_
    exact g_retC (wf := wC Y q) F hr rfl hlk dX4_isOpen_17 hX
  · have hX := if_t hX c1
    refine g_iconst (v := 1) F dX4_isOpen_12 (by decide) ?_
    refine g_goto (tgt := 17) F dX4_isOpen_13 (by decide) ?_
    exact g_retC (wf := wC Y q) F hr rfl hlk dX4_isOpen_17 hX
theorem callX4_isOpen {p : Program} {l : Launch} {e : Env} {R : Room} {s : State} {m : MethodId} {args : Array Value} {below : List Frame} {meth : Method} {c : Code} {D : va_G} {Y : Nat → ClassId} {A : Nat → Prop} {cc : ByteArray} {nL : Nat} {own : String} {Q : State → Prop} {pc : Nat} {lv : List (Nat × Value)} {rest : List Value} {q : Nat → Nat} {a1 : Int32} {u u1 : St} {r : Int32} (F : Fx p s m args c D Y A cc nL own) (hX : pX4_isOpen a1 u = some (r, u1)) {index : Nat} (hml : Cond.methodLink own index yX4_isOpen ∈ TBL) (hR : 1 + 1 ≤ R.frames ∧ 8 + (2 + 11) + 21 ≤ R.locals) (hcat : (rest.map fun v => v.category).sum ≤ 8) (hd : decode cc pc = .ok (.invokevirtual index, 3)) (kk : GW p l e R s m args below meth c D A nL 0 0 Q (wC Y q u1) (pc + 3) lv (.int r :: rest)) : GW p l e R s m args below meth c D A nL 0 0 Q (wC Y q u) pc lv (.int a1 :: .ref (q 3) :: rest) := g_callVi (ws := wC Y q u) (n := 1) (q0 := 3) (As := [.int a1]) F [] [] (kX4_isOpen hX) (List.append_nil _).symm (List.append_nil _) (by unfold mOK; decide +kernel) rfl rfl cd_yX4_isOpen hml im_yX4_isOpen se_yX4_isOpen in_X4 rfl rfl hR ⟨Nat.zero_le _, Nat.zero_le _⟩ rfl hcat hd kk
theorem dX4_hasPlug_0 : decode cX4_hasPlug 0 = .ok (.aload_n 0, 1) := by decide +kernel
theorem dX4_hasPlug_1 : decode cX4_hasPlug 1 = .ok (.getfield 32, 3) := by decide +kernel
theorem dX4_hasPlug_4 : decode cX4_hasPlug 4 = .ok (.iload_n 1, 1) := by decide +kernel
theorem dX4_hasPlug_5 : decode cX4_hasPlug 5 = .ok (.invokestatic 35, 3) := by decide +kernel
theorem dX4_hasPlug_8 : decode cX4_hasPlug 8 = .ok (.invokevirtual 39, 3) := by decide +kernel
theorem dX4_hasPlug_11 : decode cX4_hasPlug 11 = .ok (.iconst 1, 1) := by decide +kernel
theorem dX4_hasPlug_12 : decode cX4_hasPlug 12 = .ok (.if_icmp .ne 7, 3) := by decide +kernel
theorem dX4_hasPlug_15 : decode cX4_hasPlug 15 = .ok (.iconst 1, 1) := by decide +kernel
theorem dX4_hasPlug_16 : decode cX4_hasPlug 16 = .ok (.goto 4, 3) := by decide +kernel
theorem dX4_hasPlug_19 : decode cX4_hasPlug 19 = .ok (.iconst 0, 1) := by decide +kernel
theorem dX4_hasPlug_20 : decode cX4_hasPlug 20 = .ok (.ireturn, 1) := by decide +kernel
def pX4_hasPlug (a1 : Int32) (u : St) : Option (Int32 × St) := if (rg u 14 (pX4_cellOf a1)) = 1 then (some (1, u)) else (some (0, u))
set_option maxHeartbeats 4000000 in
set_option maxRecDepth 20000 in
theorem kX4_hasPlug {l : Launch} {D : va_G} {Y : Nat → ClassId} {q : Nat → Nat} {a1 : Int32} {u u1 : St} {r : Int32} (hX : pX4_hasPlug a1 u = some (r, u1)) : CMi l yX4_hasPlug cX4_hasPlug 2 (some .boolean) 1 21 D Y (wC Y q u) (wC Y q u1) [.ref (q 3), .int a1] r := by
  refine cm_ofi (by decide) (Nat.le_of_ble_eq_true rfl) rfl (fun p e s m args below meth c A F hr hlk => ?_)
  show GW p l e { frames := 1, cells := 0, slots := 0, locals := 21 } s m args below meth c D A 2 0 0 (MQ below (QI D (wC Y q u1) r A) args s 0 0 A) (wC Y q u) 0 [(0, .ref (q 3)), (1, .int a1)] []
  have hX : (if (rg u 14 (pX4_cellOf a1)) = 1 then (some (1, u)) else (some (0, u))) = some (r, u1) := hX
  refine g_aload_n F dX4_hasPlug_0 0 rfl rfl ?_
  refine G_X4_32 F dX4_hasPlug_1 ?_
  refine g_iload_n F dX4_hasPlug_4 1 rfl rfl ?_
  refine callX4_cellOf F ml_X4_35 ⟨Nat.le_of_ble_eq_true rfl, Nat.le_of_ble_eq_true rfl⟩ (Nat.le_of_ble_eq_true rfl) dX4_hasPlug_5 ?_
  refine C_rget F 14 (by decide) ml_X4_39 ⟨Nat.le_of_ble_eq_true rfl, Nat.le_of_ble_eq_true rfl⟩ (Nat.le_of_ble_eq_true rfl) dX4_hasPlug_8 ?_
  refine g_iconst (v := 1) F dX4_hasPlug_11 (by decide) ?_
  refine g_icmp_ne (tgt := 19) F dX4_hasPlug_12 (by decide) (fun c1 => ?_) (fun c1 => ?_)
  · have hX := if_f hX c1
    refine g_iconst (v := 0) F dX4_hasPlug_19 (by decide) ?_
    exact g_retC (wf := wC Y q) F hr rfl hlk dX4_hasPlug_20 hX
  · have hX := if_t hX c1
    refine g_iconst (v := 1) F dX4_hasPlug_15 (by decide) ?_
    refine g_goto (tgt := 20) F dX4_hasPlug_16 (by decide) ?_
    exact g_retC (wf := wC Y q) F hr rfl hlk dX4_hasPlug_20 hX
theorem callX4_hasPlug {p : Program} {l : Launch} {e : Env} {R : Room} {s : State} {m : MethodId} {args : Array Value} {below : List Frame} {meth : Method} {c : Code} {D : va_G} {Y : Nat → ClassId} {A : Nat → Prop} {cc : ByteArray} {nL : Nat} {own : String} {Q : State → Prop} {pc : Nat} {lv : List (Nat × Value)} {rest : List Value} {q : Nat → Nat} {a1 : Int32} {u u1 : St} {r : Int32} (F : Fx p s m args c D Y A cc nL own) (hX : pX4_hasPlug a1 u = some (r, u1)) {index : Nat} (hml : Cond.methodLink own index yX4_hasPlug ∈ TBL) (hR : 1 + 1 ≤ R.frames ∧ 8 + (2 + 11) + 21 ≤ R.locals) (hcat : (rest.map fun v => v.category).sum ≤ 8) (hd : decode cc pc = .ok (.invokevirtual index, 3)) (kk : GW p l e R s m args below meth c D A nL 0 0 Q (wC Y q u1) (pc + 3) lv (.int r :: rest)) : GW p l e R s m args below meth c D A nL 0 0 Q (wC Y q u) pc lv (.int a1 :: .ref (q 3) :: rest) := g_callVi (ws := wC Y q u) (n := 1) (q0 := 3) (As := [.int a1]) F [] [] (kX4_hasPlug hX) (List.append_nil _).symm (List.append_nil _) (by unfold mOK; decide +kernel) rfl rfl cd_yX4_hasPlug hml im_yX4_hasPlug se_yX4_hasPlug in_X4 rfl rfl hR ⟨Nat.zero_le _, Nat.zero_le _⟩ rfl hcat hd kk
theorem dX4_turnPlug_0 : decode cX4_turnPlug 0 = .ok (.aload_n 0, 1) := by decide +kernel
theorem dX4_turnPlug_1 : decode cX4_turnPlug 1 = .ok (.getfield 32, 3) := by decide +kernel
theorem dX4_turnPlug_4 : decode cX4_turnPlug 4 = .ok (.iload_n 1, 1) := by decide +kernel
theorem dX4_turnPlug_5 : decode cX4_turnPlug 5 = .ok (.invokestatic 35, 3) := by decide +kernel
theorem dX4_turnPlug_8 : decode cX4_turnPlug 8 = .ok (.aload_n 0, 1) := by decide +kernel
theorem dX4_turnPlug_9 : decode cX4_turnPlug 9 = .ok (.iload_n 1, 1) := by decide +kernel
theorem dX4_turnPlug_10 : decode cX4_turnPlug 10 = .ok (.invokevirtual 49, 3) := by decide +kernel
theorem dX4_turnPlug_13 : decode cX4_turnPlug 13 = .ok (.ifCond .eq 7, 3) := by decide +kernel
theorem dX4_turnPlug_16 : decode cX4_turnPlug 16 = .ok (.iconst 0, 1) := by decide +kernel
theorem dX4_turnPlug_17 : decode cX4_turnPlug 17 = .ok (.goto 4, 3) := by decide +kernel
theorem dX4_turnPlug_20 : decode cX4_turnPlug 20 = .ok (.iconst 1, 1) := by decide +kernel
theorem dX4_turnPlug_21 : decode cX4_turnPlug 21 = .ok (.invokevirtual 52, 3) := by decide +kernel
theorem dX4_turnPlug_24 : decode cX4_turnPlug 24 = .ok (.return_, 1) := by decide +kernel
def pX4_turnPlug_b21  (y0 : Int32) (y1 : Int32) (v : St) : Option (Int32 × St) := some (0, rs v 14 y1 y0)
def pX4_turnPlug (a1 : Int32) (u : St) : Option (Int32 × St) := bnd (pX4_hasPlug a1 u) (fun r1 w2 => if r1 = 0 then (pX4_turnPlug_b21 1 (pX4_cellOf a1) w2) else (pX4_turnPlug_b21 0 (pX4_cellOf a1) w2))
set_option maxHeartbeats 4000000 in
set_option maxRecDepth 20000 in
theorem kX4_turnPlug {l : Launch} {D : va_G} {Y : Nat → ClassId} {q : Nat → Nat} {a1 : Int32} {u u1 : St} {r : Int32} (hX : pX4_turnPlug a1 u = some (r, u1)) : CMv l yX4_turnPlug cX4_turnPlug 2 2 42 D Y (wC Y q u) (wC Y q u1) [.ref (q 3), .int a1] := by
  refine cm_ofv (by decide) (Nat.le_of_ble_eq_true rfl) rfl (fun p e s m args below meth c A F hr hlk => ?_)
  show GW p l e { frames := 2, cells := 0, slots := 0, locals := 42 } s m args below meth c D A 2 0 0 (MQ below (QV D (wC Y q u1) A) args s 0 0 A) (wC Y q u) 0 [(0, .ref (q 3)), (1, .int a1)] []
  have b21 : ∀  (y0 : Int32) (y1 : Int32) (v : St), pX4_turnPlug_b21  y0 y1 v = some (r, u1) → GW p l e { frames := 2, cells := 0, slots := 0, locals := 42 } s m args below meth c D A 2 0 0 (MQ below (QV D (wC Y q u1) A) args s 0 0 A) (wC Y q v) 21 [] [.int y0, .int y1, .ref (q 34)] := by
    intro  y0 y1 v hX
    have hX : (some (0, rs v 14 y1 y0)) = some (r, u1) := hX
    refine C_rset F 14 (by decide) ml_X4_52 ⟨Nat.le_of_ble_eq_true rfl, Nat.le_of_ble_eq_true rfl⟩ (Nat.le_of_ble_eq_true rfl) dX4_turnPlug_21 ?_
    exact g_retV (wf := wC Y q) F hr hlk dX4_turnPlug_24 hX
  have hX : (bnd (pX4_hasPlug a1 u) (fun r1 w2 => if r1 = 0 then (pX4_turnPlug_b21 1 (pX4_cellOf a1) w2) else (pX4_turnPlug_b21 0 (pX4_cellOf a1) w2))) = some (r, u1) := hX
  refine g_aload_n F dX4_turnPlug_0 0 rfl rfl ?_
  refine G_X4_32 F dX4_turnPlug_1 ?_
  refine g_iload_n F dX4_turnPlug_4 1 rfl rfl ?_
  refine callX4_cellOf F ml_X4_35 ⟨Nat.le_of_ble_eq_true rfl, Nat.le_of_ble_eq_true rfl⟩ (Nat.le_of_ble_eq_true rfl) dX4_turnPlug_5 ?_
  refine g_aload_n F dX4_turnPlug_8 0 rfl rfl ?_
  refine g_iload_n F dX4_turnPlug_9 1 rfl rfl ?_
  obtain ⟨r1, w2, hc3, hX⟩ := bnd_s hX
  refine callX4_hasPlug F hc3 ml_X4_49 ⟨Nat.le_of_ble_eq_true rfl, Nat.le_of_ble_eq_true rfl⟩ (Nat.le_of_ble_eq_true rfl) dX4_turnPlug_10 ?_
  refine g_if_eq (tgt := 20) F dX4_turnPlug_13 (by decide) (fun c4 => ?_) (fun c4 => ?_)
  · have hX := if_t hX c4
    refine g_iconst (v := 1) F dX4_turnPlug_20 (by decide) ?_
    refine g_sub [] rfl ?_
    exact b21 1 (pX4_cellOf a1) w2 hX
  · have hX := if_f hX c4
    refine g_iconst (v := 0) F dX4_turnPlug_16 (by decide) ?_
    refine g_goto (tgt := 21) F dX4_turnPlug_17 (by decide) ?_
    refine g_sub [] rfl ?_
    exact b21 0 (pX4_cellOf a1) w2 hX
theorem callX4_turnPlug {p : Program} {l : Launch} {e : Env} {R : Room} {s : State} {m : MethodId} {args : Array Value} {below : List Frame} {meth : Method} {c : Code} {D : va_G} {Y : Nat → ClassId} {A : Nat → Prop} {cc : ByteArray} {nL : Nat} {own : String} {Q : State → Prop} {pc : Nat} {lv : List (Nat × Value)} {rest : List Value} {q : Nat → Nat} {a1 : Int32} {u u1 : St} {r : Int32} (F : Fx p s m args c D Y A cc nL own) (hX : pX4_turnPlug a1 u = some (r, u1)) {index : Nat} (hml : Cond.methodLink own index yX4_turnPlug ∈ TBL) (hR : 2 + 1 ≤ R.frames ∧ 8 + (2 + 11) + 42 ≤ R.locals) (hcat : (rest.map fun v => v.category).sum ≤ 8) (hd : decode cc pc = .ok (.invokevirtual index, 3)) (kk : GW p l e R s m args below meth c D A nL 0 0 Q (wC Y q u1) (pc + 3) lv (rest)) : GW p l e R s m args below meth c D A nL 0 0 Q (wC Y q u) pc lv (.int a1 :: .ref (q 3) :: rest) := g_callVv (ws := wC Y q u) (n := 1) (q0 := 3) (As := [.int a1]) F [] [] (kX4_turnPlug hX) (List.append_nil _).symm (List.append_nil _) (by unfold mOK; decide +kernel) rfl rfl cd_yX4_turnPlug hml im_yX4_turnPlug se_yX4_turnPlug in_X4 rfl rfl hR ⟨Nat.zero_le _, Nat.zero_le _⟩ rfl hcat hd kk
theorem dX4_addWeight_0 : decode cX4_addWeight 0 = .ok (.aload_n 0, 1) := by decide +kernel
theorem dX4_addWeight_1 : decode cX4_addWeight 1 = .ok (.getfield 26, 3) := by decide +kernel
theorem dX4_addWeight_4 : decode cX4_addWeight 4 = .ok (.iload_n 1, 1) := by decide +kernel
theorem dX4_addWeight_5 : decode cX4_addWeight 5 = .ok (.invokestatic 58, 3) := by decide +kernel
theorem dX4_addWeight_8 : decode cX4_addWeight 8 = .ok (.iload_n 2, 1) := by decide +kernel
theorem dX4_addWeight_9 : decode cX4_addWeight 9 = .ok (.invokevirtual 61, 3) := by decide +kernel
theorem dX4_addWeight_12 : decode cX4_addWeight 12 = .ok (.aload_n 0, 1) := by decide +kernel
theorem dX4_addWeight_13 : decode cX4_addWeight 13 = .ok (.dup, 1) := by decide +kernel
theorem dX4_addWeight_14 : decode cX4_addWeight 14 = .ok (.getfield 64, 3) := by decide +kernel
theorem dX4_addWeight_17 : decode cX4_addWeight 17 = .ok (.iload_n 2, 1) := by decide +kernel
theorem dX4_addWeight_18 : decode cX4_addWeight 18 = .ok (.iload_n 1, 1) := by decide +kernel
theorem dX4_addWeight_19 : decode cX4_addWeight 19 = .ok (.invokestatic 68, 3) := by decide +kernel
theorem dX4_addWeight_22 : decode cX4_addWeight 22 = .ok (.iconst 1, 1) := by decide +kernel
theorem dX4_addWeight_23 : decode cX4_addWeight 23 = .ok (.isub, 1) := by decide +kernel
theorem dX4_addWeight_24 : decode cX4_addWeight 24 = .ok (.imul, 1) := by decide +kernel
theorem dX4_addWeight_25 : decode cX4_addWeight 25 = .ok (.iadd, 1) := by decide +kernel
theorem dX4_addWeight_26 : decode cX4_addWeight 26 = .ok (.putfield 64, 3) := by decide +kernel
theorem dX4_addWeight_29 : decode cX4_addWeight 29 = .ok (.return_, 1) := by decide +kernel
def pX4_addWeight (a1 : Int32) (a2 : Int32) (u : St) : Option (Int32 × St) := some (0, sS (ra u 12 (pX6_bayOf a1) a2) 7 (((ra u 12 (pX6_bayOf a1) a2).2 7) + (a2 * ((pX6_rowOf a1) - 1))))
set_option maxHeartbeats 4000000 in
set_option maxRecDepth 20000 in
theorem kX4_addWeight {l : Launch} {D : va_G} {Y : Nat → ClassId} {q : Nat → Nat} {a1 a2 : Int32} {u u1 : St} {r : Int32} (hX : pX4_addWeight a1 a2 u = some (r, u1)) : CMv l yX4_addWeight cX4_addWeight 3 1 22 D Y (wC Y q u) (wC Y q u1) [.ref (q 3), .int a1, .int a2] := by
  refine cm_ofv (by decide) (Nat.le_of_ble_eq_true rfl) rfl (fun p e s m args below meth c A F hr hlk => ?_)
  show GW p l e { frames := 1, cells := 0, slots := 0, locals := 22 } s m args below meth c D A 3 0 0 (MQ below (QV D (wC Y q u1) A) args s 0 0 A) (wC Y q u) 0 [(0, .ref (q 3)), (1, .int a1), (2, .int a2)] []
  have hX : (some (0, sS (ra u 12 (pX6_bayOf a1) a2) 7 (((ra u 12 (pX6_bayOf a1) a2).2 7) + (a2 * ((pX6_rowOf a1) - 1))))) = some (r, u1) := hX
  refine g_aload_n F dX4_addWeight_0 0 rfl rfl ?_
  refine G_X4_26 F dX4_addWeight_1 ?_
  refine g_iload_n F dX4_addWeight_4 1 rfl rfl ?_
  refine callNX6_bayOf F F.2.2.2.2.2.1.2.2.1 ⟨Nat.le_of_ble_eq_true rfl, Nat.le_of_ble_eq_true rfl⟩ (Nat.le_of_ble_eq_true rfl) dX4_addWeight_5 ?_
  refine g_iload_n F dX4_addWeight_8 2 rfl rfl ?_
  refine C_radd F 12 (by decide) ml_X4_61 ⟨Nat.le_of_ble_eq_true rfl, Nat.le_of_ble_eq_true rfl⟩ (Nat.le_of_ble_eq_true rfl) dX4_addWeight_9 ?_
  refine g_aload_n F dX4_addWeight_12 0 rfl rfl ?_
  refine g_dup F dX4_addWeight_13 rfl ?_
  refine G_X4_64 F dX4_addWeight_14 ?_
  refine g_iload_n F dX4_addWeight_17 2 rfl rfl ?_
  refine g_iload_n F dX4_addWeight_18 1 rfl rfl ?_
  refine callNX6_rowOf F F.2.2.2.2.2.1.2.2.2 ⟨Nat.le_of_ble_eq_true rfl, Nat.le_of_ble_eq_true rfl⟩ (Nat.le_of_ble_eq_true rfl) dX4_addWeight_19 ?_
  refine g_iconst (v := 1) F dX4_addWeight_22 (by decide) ?_
  refine g_isub F dX4_addWeight_23 ?_
  refine g_imul F dX4_addWeight_24 ?_
  refine g_iadd F dX4_addWeight_25 ?_
  refine P_X4_64 F dX4_addWeight_26 ?_
  exact g_retV (wf := wC Y q) F hr hlk dX4_addWeight_29 hX
theorem callX4_addWeight {p : Program} {l : Launch} {e : Env} {R : Room} {s : State} {m : MethodId} {args : Array Value} {below : List Frame} {meth : Method} {c : Code} {D : va_G} {Y : Nat → ClassId} {A : Nat → Prop} {cc : ByteArray} {nL : Nat} {own : String} {Q : State → Prop} {pc : Nat} {lv : List (Nat × Value)} {rest : List Value} {q : Nat → Nat} {a1 a2 : Int32} {u u1 : St} {r : Int32} (F : Fx p s m args c D Y A cc nL own) (hX : pX4_addWeight a1 a2 u = some (r, u1)) {index : Nat} (hml : Cond.methodLink own index yX4_addWeight ∈ TBL) (hR : 1 + 1 ≤ R.frames ∧ 8 + (3 + 11) + 22 ≤ R.locals) (hcat : (rest.map fun v => v.category).sum ≤ 8) (hd : decode cc pc = .ok (.invokevirtual index, 3)) (kk : GW p l e R s m args below meth c D A nL 0 0 Q (wC Y q u1) (pc + 3) lv (rest)) : GW p l e R s m args below meth c D A nL 0 0 Q (wC Y q u) pc lv (.int a2 :: .int a1 :: .ref (q 3) :: rest) := g_callVv (ws := wC Y q u) (n := 2) (q0 := 3) (As := [.int a1, .int a2]) F [] [] (kX4_addWeight hX) (List.append_nil _).symm (List.append_nil _) (by unfold mOK; decide +kernel) rfl rfl cd_yX4_addWeight hml im_yX4_addWeight se_yX4_addWeight in_X4 rfl rfl hR ⟨Nat.zero_le _, Nat.zero_le _⟩ rfl hcat hd kk
theorem dX4_put_0 : decode cX4_put 0 = .ok (.aload_n 0, 1) := by decide +kernel
theorem dX4_put_1 : decode cX4_put 1 = .ok (.getfield 29, 3) := by decide +kernel
theorem dX4_put_4 : decode cX4_put 4 = .ok (.iload_n 2, 1) := by decide +kernel
theorem dX4_put_5 : decode cX4_put 5 = .ok (.invokestatic 35, 3) := by decide +kernel
theorem dX4_put_8 : decode cX4_put 8 = .ok (.iload_n 1, 1) := by decide +kernel
theorem dX4_put_9 : decode cX4_put 9 = .ok (.invokevirtual 52, 3) := by decide +kernel
theorem dX4_put_12 : decode cX4_put 12 = .ok (.aload_n 0, 1) := by decide +kernel
theorem dX4_put_13 : decode cX4_put 13 = .ok (.iload_n 2, 1) := by decide +kernel
theorem dX4_put_14 : decode cX4_put 14 = .ok (.iload_n 3, 1) := by decide +kernel
theorem dX4_put_15 : decode cX4_put 15 = .ok (.invokevirtual 55, 3) := by decide +kernel
theorem dX4_put_18 : decode cX4_put 18 = .ok (.return_, 1) := by decide +kernel
def pX4_put (a1 : Int32) (a2 : Int32) (a3 : Int32) (u : St) : Option (Int32 × St) := bnd (pX4_addWeight a2 a3 (rs u 13 (pX4_cellOf a2) a1)) (fun r1 w2 => some (0, w2))
set_option maxHeartbeats 4000000 in
set_option maxRecDepth 20000 in
theorem kX4_put {l : Launch} {D : va_G} {Y : Nat → ClassId} {q : Nat → Nat} {a1 a2 a3 : Int32} {u u1 : St} {r : Int32} (hX : pX4_put a1 a2 a3 u = some (r, u1)) : CMv l yX4_put cX4_put 4 2 44 D Y (wC Y q u) (wC Y q u1) [.ref (q 3), .int a1, .int a2, .int a3] := by
  refine cm_ofv (by decide) (Nat.le_of_ble_eq_true rfl) rfl (fun p e s m args below meth c A F hr hlk => ?_)
  show GW p l e { frames := 2, cells := 0, slots := 0, locals := 44 } s m args below meth c D A 4 0 0 (MQ below (QV D (wC Y q u1) A) args s 0 0 A) (wC Y q u) 0 [(0, .ref (q 3)), (1, .int a1), (2, .int a2), (3, .int a3)] []
  have hX : (bnd (pX4_addWeight a2 a3 (rs u 13 (pX4_cellOf a2) a1)) (fun r1 w2 => some (0, w2))) = some (r, u1) := hX
  refine g_aload_n F dX4_put_0 0 rfl rfl ?_
  refine G_X4_29 F dX4_put_1 ?_
  refine g_iload_n F dX4_put_4 2 rfl rfl ?_
  refine callX4_cellOf F ml_X4_35 ⟨Nat.le_of_ble_eq_true rfl, Nat.le_of_ble_eq_true rfl⟩ (Nat.le_of_ble_eq_true rfl) dX4_put_5 ?_
  refine g_iload_n F dX4_put_8 1 rfl rfl ?_
  refine C_rset F 13 (by decide) ml_X4_52 ⟨Nat.le_of_ble_eq_true rfl, Nat.le_of_ble_eq_true rfl⟩ (Nat.le_of_ble_eq_true rfl) dX4_put_9 ?_
  refine g_aload_n F dX4_put_12 0 rfl rfl ?_
  refine g_iload_n F dX4_put_13 2 rfl rfl ?_
  refine g_iload_n F dX4_put_14 3 rfl rfl ?_
  obtain ⟨r1, w2, hc3, hX⟩ := bnd_s hX
  refine callX4_addWeight F hc3 ml_X4_55 ⟨Nat.le_of_ble_eq_true rfl, Nat.le_of_ble_eq_true rfl⟩ (Nat.le_of_ble_eq_true rfl) dX4_put_15 ?_
  exact g_retV (wf := wC Y q) F hr hlk dX4_put_18 hX
theorem callX4_put {p : Program} {l : Launch} {e : Env} {R : Room} {s : State} {m : MethodId} {args : Array Value} {below : List Frame} {meth : Method} {c : Code} {D : va_G} {Y : Nat → ClassId} {A : Nat → Prop} {cc : ByteArray} {nL : Nat} {own : String} {Q : State → Prop} {pc : Nat} {lv : List (Nat × Value)} {rest : List Value} {q : Nat → Nat} {a1 a2 a3 : Int32} {u u1 : St} {r : Int32} (F : Fx p s m args c D Y A cc nL own) (hX : pX4_put a1 a2 a3 u = some (r, u1)) {index : Nat} (hml : Cond.methodLink own index yX4_put ∈ TBL) (hR : 2 + 1 ≤ R.frames ∧ 8 + (4 + 11) + 44 ≤ R.locals) (hcat : (rest.map fun v => v.category).sum ≤ 8) (hd : decode cc pc = .ok (.invokevirtual index, 3)) (kk : GW p l e R s m args below meth c D A nL 0 0 Q (wC Y q u1) (pc + 3) lv (rest)) : GW p l e R s m args below meth c D A nL 0 0 Q (wC Y q u) pc lv (.int a3 :: .int a2 :: .int a1 :: .ref (q 3) :: rest) := g_callVv (ws := wC Y q u) (n := 3) (q0 := 3) (As := [.int a1, .int a2, .int a3]) F [] [] (kX4_put hX) (List.append_nil _).symm (List.append_nil _) (by unfold mOK; decide +kernel) rfl rfl cd_yX4_put hml im_yX4_put se_yX4_put in_X4 rfl rfl hR ⟨Nat.zero_le _, Nat.zero_le _⟩ rfl hcat hd kk
theorem dX4_take_0 : decode cX4_take 0 = .ok (.aload_n 0, 1) := by decide +kernel
theorem dX4_take_1 : decode cX4_take 1 = .ok (.getfield 29, 3) := by decide +kernel
theorem dX4_take_4 : decode cX4_take 4 = .ok (.iload_n 1, 1) := by decide +kernel
theorem dX4_take_5 : decode cX4_take 5 = .ok (.invokestatic 35, 3) := by decide +kernel
theorem dX4_take_8 : decode cX4_take 8 = .ok (.iconst (-1), 1) := by decide +kernel
theorem dX4_take_9 : decode cX4_take 9 = .ok (.invokevirtual 52, 3) := by decide +kernel
theorem dX4_take_12 : decode cX4_take 12 = .ok (.aload_n 0, 1) := by decide +kernel
theorem dX4_take_13 : decode cX4_take 13 = .ok (.iload_n 1, 1) := by decide +kernel
theorem dX4_take_14 : decode cX4_take 14 = .ok (.iload_n 2, 1) := by decide +kernel
theorem dX4_take_15 : decode cX4_take 15 = .ok (.ineg, 1) := by decide +kernel
theorem dX4_take_16 : decode cX4_take 16 = .ok (.invokevirtual 55, 3) := by decide +kernel
theorem dX4_take_19 : decode cX4_take 19 = .ok (.return_, 1) := by decide +kernel
def pX4_take (a1 : Int32) (a2 : Int32) (u : St) : Option (Int32 × St) := bnd (pX4_addWeight a1 (-a2) (rs u 13 (pX4_cellOf a1) ((-1)))) (fun r1 w2 => some (0, w2))
set_option maxHeartbeats 4000000 in
set_option maxRecDepth 20000 in
theorem kX4_take {l : Launch} {D : va_G} {Y : Nat → ClassId} {q : Nat → Nat} {a1 a2 : Int32} {u u1 : St} {r : Int32} (hX : pX4_take a1 a2 u = some (r, u1)) : CMv l yX4_take cX4_take 3 2 44 D Y (wC Y q u) (wC Y q u1) [.ref (q 3), .int a1, .int a2] := by
  refine cm_ofv (by decide) (Nat.le_of_ble_eq_true rfl) rfl (fun p e s m args below meth c A F hr hlk => ?_)
  show GW p l e { frames := 2, cells := 0, slots := 0, locals := 44 } s m args below meth c D A 3 0 0 (MQ below (QV D (wC Y q u1) A) args s 0 0 A) (wC Y q u) 0 [(0, .ref (q 3)), (1, .int a1), (2, .int a2)] []
  have hX : (bnd (pX4_addWeight a1 (-a2) (rs u 13 (pX4_cellOf a1) ((-1)))) (fun r1 w2 => some (0, w2))) = some (r, u1) := hX
  refine g_aload_n F dX4_take_0 0 rfl rfl ?_
  refine G_X4_29 F dX4_take_1 ?_
  refine g_iload_n F dX4_take_4 1 rfl rfl ?_
  refine callX4_cellOf F ml_X4_35 ⟨Nat.le_of_ble_eq_true rfl, Nat.le_of_ble_eq_true rfl⟩ (Nat.le_of_ble_eq_true rfl) dX4_take_5 ?_
  refine g_iconst (v := (-1)) F dX4_take_8 (by decide) ?_
  refine C_rset F 13 (by decide) ml_X4_52 ⟨Nat.le_of_ble_eq_true rfl, Nat.le_of_ble_eq_true rfl⟩ (Nat.le_of_ble_eq_true rfl) dX4_take_9 ?_
  refine g_aload_n F dX4_take_12 0 rfl rfl ?_
  refine g_iload_n F dX4_take_13 1 rfl rfl ?_
  refine g_iload_n F dX4_take_14 2 rfl rfl ?_
  refine g_ineg F dX4_take_15 ?_
  obtain ⟨r1, w2, hc3, hX⟩ := bnd_s hX
  refine callX4_addWeight F hc3 ml_X4_55 ⟨Nat.le_of_ble_eq_true rfl, Nat.le_of_ble_eq_true rfl⟩ (Nat.le_of_ble_eq_true rfl) dX4_take_16 ?_
  exact g_retV (wf := wC Y q) F hr hlk dX4_take_19 hX
theorem callX4_take {p : Program} {l : Launch} {e : Env} {R : Room} {s : State} {m : MethodId} {args : Array Value} {below : List Frame} {meth : Method} {c : Code} {D : va_G} {Y : Nat → ClassId} {A : Nat → Prop} {cc : ByteArray} {nL : Nat} {own : String} {Q : State → Prop} {pc : Nat} {lv : List (Nat × Value)} {rest : List Value} {q : Nat → Nat} {a1 a2 : Int32} {u u1 : St} {r : Int32} (F : Fx p s m args c D Y A cc nL own) (hX : pX4_take a1 a2 u = some (r, u1)) {index : Nat} (hml : Cond.methodLink own index yX4_take ∈ TBL) (hR : 2 + 1 ≤ R.frames ∧ 8 + (3 + 11) + 44 ≤ R.locals) (hcat : (rest.map fun v => v.category).sum ≤ 8) (hd : decode cc pc = .ok (.invokevirtual index, 3)) (kk : GW p l e R s m args below meth c D A nL 0 0 Q (wC Y q u1) (pc + 3) lv (rest)) : GW p l e R s m args below meth c D A nL 0 0 Q (wC Y q u) pc lv (.int a2 :: .int a1 :: .ref (q 3) :: rest) := g_callVv (ws := wC Y q u) (n := 2) (q0 := 3) (As := [.int a1, .int a2]) F [] [] (kX4_take hX) (List.append_nil _).symm (List.append_nil _) (by unfold mOK; decide +kernel) rfl rfl cd_yX4_take hml im_yX4_take se_yX4_take in_X4 rfl rfl hR ⟨Nat.zero_le _, Nat.zero_le _⟩ rfl hcat hd kk
theorem dX5_boxIn_0 : decode cX5_boxIn 0 = .ok (.iload_n 2, 1) := by decide +kernel
theorem dX5_boxIn_1 : decode cX5_boxIn 1 = .ok (.ifCond .lt 15, 3) := by decide +kernel
theorem dX5_boxIn_4 : decode cX5_boxIn 4 = .ok (.iload_n 2, 1) := by decide +kernel
theorem dX5_boxIn_5 : decode cX5_boxIn 5 = .ok (.aload_n 0, 1) := by decide +kernel
theorem dX5_boxIn_6 : decode cX5_boxIn 6 = .ok (.getfield 14, 3) := by decide +kernel
theorem dX5_boxIn_9 : decode cX5_boxIn 9 = .ok (.iload_n 1, 1) := by decide +kernel
theorem dX5_boxIn_10 : decode cX5_boxIn 10 = .ok (.invokevirtual 23, 3) := by decide +kernel
theorem dX5_boxIn_13 : decode cX5_boxIn 13 = .ok (.if_icmp .lt 5, 3) := by decide +kernel
theorem dX5_boxIn_16 : decode cX5_boxIn 16 = .ok (.iconst (-1), 1) := by decide +kernel
theorem dX5_boxIn_17 : decode cX5_boxIn 17 = .ok (.ireturn, 1) := by decide +kernel
theorem dX5_boxIn_18 : decode cX5_boxIn 18 = .ok (.aload_n 0, 1) := by decide +kernel
theorem dX5_boxIn_19 : decode cX5_boxIn 19 = .ok (.getfield 20, 3) := by decide +kernel
theorem dX5_boxIn_22 : decode cX5_boxIn 22 = .ok (.iload_n 1, 1) := by decide +kernel
theorem dX5_boxIn_23 : decode cX5_boxIn 23 = .ok (.iconst 4, 1) := by decide +kernel
theorem dX5_boxIn_24 : decode cX5_boxIn 24 = .ok (.imul, 1) := by decide +kernel
theorem dX5_boxIn_25 : decode cX5_boxIn 25 = .ok (.iload_n 2, 1) := by decide +kernel
theorem dX5_boxIn_26 : decode cX5_boxIn 26 = .ok (.iadd, 1) := by decide +kernel
theorem dX5_boxIn_27 : decode cX5_boxIn 27 = .ok (.invokevirtual 23, 3) := by decide +kernel
theorem dX5_boxIn_30 : decode cX5_boxIn 30 = .ok (.ireturn, 1) := by decide +kernel
def pX5_boxIn_b16   (v : St) : Option (Int32 × St) := some ((-1), v)
def pX5_boxIn (a1 : Int32) (a2 : Int32) (u : St) : Option (Int32 × St) := if a2 < 0 then (pX5_boxIn_b16 u) else (if a2 < (rg u 7 a1) then (some (rg u 8 ((a1 * 4) + a2), u)) else (pX5_boxIn_b16 u))
set_option maxHeartbeats 4000000 in
set_option maxRecDepth 20000 in
theorem kX5_boxIn {l : Launch} {D : va_G} {Y : Nat → ClassId} {q : Nat → Nat} {a1 a2 : Int32} {u u1 : St} {r : Int32} (hX : pX5_boxIn a1 a2 u = some (r, u1)) : CMi l yX5_boxIn cX5_boxIn 3 (some .int) 1 21 D Y (wC Y q u) (wC Y q u1) [.ref (q 2), .int a1, .int a2] r := by
  refine cm_ofi (by decide) (Nat.le_of_ble_eq_true rfl) rfl (fun p e s m args below meth c A F hr hlk => ?_)
  show GW p l e { frames := 1, cells := 0, slots := 0, locals := 21 } s m args below meth c D A 3 0 0 (MQ below (QI D (wC Y q u1) r A) args s 0 0 A) (wC Y q u) 0 [(0, .ref (q 2)), (1, .int a1), (2, .int a2)] []
  have b16 : ∀   (v : St), pX5_boxIn_b16  v = some (r, u1) → GW p l e { frames := 1, cells := 0, slots := 0, locals := 21 } s m args below meth c D A 3 0 0 (MQ below (QI D (wC Y q u1) r A) args s 0 0 A) (wC Y q v) 16 [] [] := by
    intro  v hX
    have hX : (some ((-1), v)) = some (r, u1) := hX
    refine g_iconst (v := (-1)) F dX5_boxIn_16 (by decide) ?_
    exact g_retC (wf := wC Y q) F hr rfl hlk dX5_boxIn_17 hX
  have hX : (if a2 < 0 then (pX5_boxIn_b16 u) else (if a2 < (rg u 7 a1) then (some (rg u 8 ((a1 * 4) + a2), u)) else (pX5_boxIn_b16 u))) = some (r, u1) := hX
  refine g_iload_n F dX5_boxIn_0 2 rfl rfl ?_
  refine g_if_lt (tgt := 16) F dX5_boxIn_1 (by decide) (fun c1 => ?_) (fun c1 => ?_)
  · have hX := if_t hX c1
    refine g_sub [] rfl ?_
    exact b16 u hX
  · have hX := if_f hX c1
    refine g_iload_n F dX5_boxIn_4 2 rfl rfl ?_
    refine g_aload_n F dX5_boxIn_5 0 rfl rfl ?_
    refine G_X5_14 F dX5_boxIn_6 ?_
    refine g_iload_n F dX5_boxIn_9 1 rfl rfl ?_
    refine C_rget F 7 (by decide) ml_X5_23 ⟨Nat.le_of_ble_eq_true rfl, Nat.le_of_ble_eq_true rfl⟩ (Nat.le_of_ble_eq_true rfl) dX5_boxIn_10 ?_
    refine g_icmp_lt (tgt := 18) F dX5_boxIn_13 (by decide) (fun c2 => ?_) (fun c2 => ?_)
    · have hX := if_t hX c2
      refine g_aload_n F dX5_boxIn_18 0 rfl rfl ?_
      refine G_X5_20 F dX5_boxIn_19 ?_
      refine g_iload_n F dX5_boxIn_22 1 rfl rfl ?_
      refine g_iconst (v := 4) F dX5_boxIn_23 (by decide) ?_
      refine g_imul F dX5_boxIn_24 ?_
      refine g_iload_n F dX5_boxIn_25 2 rfl rfl ?_
      refine g_iadd F dX5_boxIn_26 ?_
      refine C_rget F 8 (by decide) ml_X5_23 ⟨Nat.le_of_ble_eq_true rfl, Nat.le_of_ble_eq_true rfl⟩ (Nat.le_of_ble_eq_true rfl) dX5_boxIn_27 ?_
      exact g_retC (wf := wC Y q) F hr rfl hlk dX5_boxIn_30 hX
    · have hX := if_f hX c2
      refine g_sub [] rfl ?_
      exact b16 u hX
theorem callX5_boxIn {p : Program} {l : Launch} {e : Env} {R : Room} {s : State} {m : MethodId} {args : Array Value} {below : List Frame} {meth : Method} {c : Code} {D : va_G} {Y : Nat → ClassId} {A : Nat → Prop} {cc : ByteArray} {nL : Nat} {own : String} {Q : State → Prop} {pc : Nat} {lv : List (Nat × Value)} {rest : List Value} {q : Nat → Nat} {a1 a2 : Int32} {u u1 : St} {r : Int32} (F : Fx p s m args c D Y A cc nL own) (hX : pX5_boxIn a1 a2 u = some (r, u1)) {index : Nat} (hml : Cond.methodLink own index yX5_boxIn ∈ TBL) (hR : 1 + 1 ≤ R.frames ∧ 8 + (3 + 11) + 21 ≤ R.locals) (hcat : (rest.map fun v => v.category).sum ≤ 8) (hd : decode cc pc = .ok (.invokevirtual index, 3)) (kk : GW p l e R s m args below meth c D A nL 0 0 Q (wC Y q u1) (pc + 3) lv (.int r :: rest)) : GW p l e R s m args below meth c D A nL 0 0 Q (wC Y q u) pc lv (.int a2 :: .int a1 :: .ref (q 2) :: rest) := g_callVi (ws := wC Y q u) (n := 2) (q0 := 2) (As := [.int a1, .int a2]) F [] [] (kX5_boxIn hX) (List.append_nil _).symm (List.append_nil _) (by unfold mOK; decide +kernel) rfl rfl cd_yX5_boxIn hml im_yX5_boxIn se_yX5_boxIn in_X5 rfl rfl hR ⟨Nat.zero_le _, Nat.zero_le _⟩ rfl hcat hd kk
theorem dX5_topOf_0 : decode cX5_topOf 0 = .ok (.aload_n 0, 1) := by decide +kernel
theorem dX5_topOf_1 : decode cX5_topOf 1 = .ok (.getfield 14, 3) := by decide +kernel
theorem dX5_topOf_4 : decode cX5_topOf 4 = .ok (.iload_n 1, 1) := by decide +kernel
theorem dX5_topOf_5 : decode cX5_topOf 5 = .ok (.invokevirtual 23, 3) := by decide +kernel
theorem dX5_topOf_8 : decode cX5_topOf 8 = .ok (.iconst 1, 1) := by decide +kernel
theorem dX5_topOf_9 : decode cX5_topOf 9 = .ok (.isub, 1) := by decide +kernel
theorem dX5_topOf_10 : decode cX5_topOf 10 = .ok (.istore_n 2, 1) := by decide +kernel
theorem dX5_topOf_11 : decode cX5_topOf 11 = .ok (.iload_n 2, 1) := by decide +kernel
theorem dX5_topOf_12 : decode cX5_topOf 12 = .ok (.ifCond .ge 7, 3) := by decide +kernel
theorem dX5_topOf_15 : decode cX5_topOf 15 = .ok (.iconst (-1), 1) := by decide +kernel
theorem dX5_topOf_16 : decode cX5_topOf 16 = .ok (.goto 15, 3) := by decide +kernel
theorem dX5_topOf_19 : decode cX5_topOf 19 = .ok (.aload_n 0, 1) := by decide +kernel
theorem dX5_topOf_20 : decode cX5_topOf 20 = .ok (.getfield 20, 3) := by decide +kernel
theorem dX5_topOf_23 : decode cX5_topOf 23 = .ok (.iload_n 1, 1) := by decide +kernel
theorem dX5_topOf_24 : decode cX5_topOf 24 = .ok (.iconst 4, 1) := by decide +kernel
theorem dX5_topOf_25 : decode cX5_topOf 25 = .ok (.imul, 1) := by decide +kernel
theorem dX5_topOf_26 : decode cX5_topOf 26 = .ok (.iload_n 2, 1) := by decide +kernel
theorem dX5_topOf_27 : decode cX5_topOf 27 = .ok (.iadd, 1) := by decide +kernel
theorem dX5_topOf_28 : decode cX5_topOf 28 = .ok (.invokevirtual 23, 3) := by decide +kernel
theorem dX5_topOf_31 : decode cX5_topOf 31 = .ok (.ireturn, 1) := by decide +kernel
def pX5_topOf (a1 : Int32) (u : St) : Option (Int32 × St) := if 0 ≤ ((rg u 7 a1) - 1) then (some (rg u 8 ((a1 * 4) + ((rg u 7 a1) - 1)), u)) else (some ((-1), u))
set_option maxHeartbeats 4000000 in
set_option maxRecDepth 20000 in
theorem kX5_topOf {l : Launch} {D : va_G} {Y : Nat → ClassId} {q : Nat → Nat} {a1 : Int32} {u u1 : St} {r : Int32} (hX : pX5_topOf a1 u = some (r, u1)) : CMi l yX5_topOf cX5_topOf 3 (some .int) 1 21 D Y (wC Y q u) (wC Y q u1) [.ref (q 2), .int a1] r := by
  refine cm_ofi (by decide) (Nat.le_of_ble_eq_true rfl) rfl (fun p e s m args below meth c A F hr hlk => ?_)
  show GW p l e { frames := 1, cells := 0, slots := 0, locals := 21 } s m args below meth c D A 3 0 0 (MQ below (QI D (wC Y q u1) r A) args s 0 0 A) (wC Y q u) 0 [(0, .ref (q 2)), (1, .int a1)] []
  have hX : (if 0 ≤ ((rg u 7 a1) - 1) then (some (rg u 8 ((a1 * 4) + ((rg u 7 a1) - 1)), u)) else (some ((-1), u))) = some (r, u1) := hX
  refine g_aload_n F dX5_topOf_0 0 rfl rfl ?_
  refine G_X5_14 F dX5_topOf_1 ?_
  refine g_iload_n F dX5_topOf_4 1 rfl rfl ?_
  refine C_rget F 7 (by decide) ml_X5_23 ⟨Nat.le_of_ble_eq_true rfl, Nat.le_of_ble_eq_true rfl⟩ (Nat.le_of_ble_eq_true rfl) dX5_topOf_5 ?_
  refine g_iconst (v := 1) F dX5_topOf_8 (by decide) ?_
  refine g_isub F dX5_topOf_9 ?_
  refine g_istore_n (lv' := [(2, .int ((rg u 7 a1) - 1)), (0, .ref (q 2)), (1, .int a1)]) F dX5_topOf_10 rfl (by decide) rfl ?_
  refine g_iload_n F dX5_topOf_11 0 rfl rfl ?_
  refine g_if_ge (tgt := 19) F dX5_topOf_12 (by decide) (fun c1 => ?_) (fun c1 => ?_)
  · have hX := if_t hX c1
    refine g_aload_n F dX5_topOf_19 1 rfl rfl ?_
    refine G_X5_20 F dX5_topOf_20 ?_
    refine g_iload_n F dX5_topOf_23 2 rfl rfl ?_
    refine g_iconst (v := 4) F dX5_topOf_24 (by decide) ?_
    refine g_imul F dX5_topOf_25 ?_
    refine g_iload_n F dX5_topOf_26 0 rfl rfl ?_
    refine g_iadd F dX5_topOf_27 ?_
    refine C_rget F 8 (by decide) ml_X5_23 ⟨Nat.le_of_ble_eq_true rfl, Nat.le_of_ble_eq_true rfl⟩ (Nat.le_of_ble_eq_true rfl) dX5_topOf_28 ?_
    exact g_retC (wf := wC Y q) F hr rfl hlk dX5_topOf_31 hX
  · have hX := if_f hX c1
    refine g_iconst (v := (-1)) F dX5_topOf_15 (by decide) ?_
    refine g_goto (tgt := 31) F dX5_topOf_16 (by decide) ?_
    exact g_retC (wf := wC Y q) F hr rfl hlk dX5_topOf_31 hX
theorem callX5_topOf {p : Program} {l : Launch} {e : Env} {R : Room} {s : State} {m : MethodId} {args : Array Value} {below : List Frame} {meth : Method} {c : Code} {D : va_G} {Y : Nat → ClassId} {A : Nat → Prop} {cc : ByteArray} {nL : Nat} {own : String} {Q : State → Prop} {pc : Nat} {lv : List (Nat × Value)} {rest : List Value} {q : Nat → Nat} {a1 : Int32} {u u1 : St} {r : Int32} (F : Fx p s m args c D Y A cc nL own) (hX : pX5_topOf a1 u = some (r, u1)) {index : Nat} (hml : Cond.methodLink own index yX5_topOf ∈ TBL) (hR : 1 + 1 ≤ R.frames ∧ 8 + (3 + 11) + 21 ≤ R.locals) (hcat : (rest.map fun v => v.category).sum ≤ 8) (hd : decode cc pc = .ok (.invokevirtual index, 3)) (kk : GW p l e R s m args below meth c D A nL 0 0 Q (wC Y q u1) (pc + 3) lv (.int r :: rest)) : GW p l e R s m args below meth c D A nL 0 0 Q (wC Y q u) pc lv (.int a1 :: .ref (q 2) :: rest) := g_callVi (ws := wC Y q u) (n := 1) (q0 := 2) (As := [.int a1]) F [] [] (kX5_topOf hX) (List.append_nil _).symm (List.append_nil _) (by unfold mOK; decide +kernel) rfl rfl cd_yX5_topOf hml im_yX5_topOf se_yX5_topOf in_X5 rfl rfl hR ⟨Nat.zero_le _, Nat.zero_le _⟩ rfl hcat hd kk
theorem dX5_boxesOver_0 : decode cX5_boxesOver 0 = .ok (.aload_n 0, 1) := by decide +kernel
theorem dX5_boxesOver_1 : decode cX5_boxesOver 1 = .ok (.getfield 14, 3) := by decide +kernel
theorem dX5_boxesOver_4 : decode cX5_boxesOver 4 = .ok (.iload_n 2, 1) := by decide +kernel
theorem dX5_boxesOver_5 : decode cX5_boxesOver 5 = .ok (.invokevirtual 23, 3) := by decide +kernel
theorem dX5_boxesOver_8 : decode cX5_boxesOver 8 = .ok (.istore_n 3, 1) := by decide +kernel
theorem dX5_boxesOver_9 : decode cX5_boxesOver 9 = .ok (.iconst 0, 1) := by decide +kernel
theorem dX5_boxesOver_10 : decode cX5_boxesOver 10 = .ok (.istore 4, 2) := by decide +kernel
theorem dX5_boxesOver_12 : decode cX5_boxesOver 12 = .ok (.iload 4, 2) := by decide +kernel
theorem dX5_boxesOver_14 : decode cX5_boxesOver 14 = .ok (.iload_n 3, 1) := by decide +kernel
theorem dX5_boxesOver_15 : decode cX5_boxesOver 15 = .ok (.if_icmp .ge 27, 3) := by decide +kernel
theorem dX5_boxesOver_18 : decode cX5_boxesOver 18 = .ok (.aload_n 0, 1) := by decide +kernel
theorem dX5_boxesOver_19 : decode cX5_boxesOver 19 = .ok (.iload_n 2, 1) := by decide +kernel
theorem dX5_boxesOver_20 : decode cX5_boxesOver 20 = .ok (.iload 4, 2) := by decide +kernel
theorem dX5_boxesOver_22 : decode cX5_boxesOver 22 = .ok (.invokevirtual 27, 3) := by decide +kernel
theorem dX5_boxesOver_25 : decode cX5_boxesOver 25 = .ok (.iload_n 1, 1) := by decide +kernel
theorem dX5_boxesOver_26 : decode cX5_boxesOver 26 = .ok (.if_icmp .ne 10, 3) := by decide +kernel
theorem dX5_boxesOver_29 : decode cX5_boxesOver 29 = .ok (.iload_n 3, 1) := by decide +kernel
theorem dX5_boxesOver_30 : decode cX5_boxesOver 30 = .ok (.iconst 1, 1) := by decide +kernel
theorem dX5_boxesOver_31 : decode cX5_boxesOver 31 = .ok (.isub, 1) := by decide +kernel
theorem dX5_boxesOver_32 : decode cX5_boxesOver 32 = .ok (.iload 4, 2) := by decide +kernel
theorem dX5_boxesOver_34 : decode cX5_boxesOver 34 = .ok (.isub, 1) := by decide +kernel
theorem dX5_boxesOver_35 : decode cX5_boxesOver 35 = .ok (.ireturn, 1) := by decide +kernel
theorem dX5_boxesOver_36 : decode cX5_boxesOver 36 = .ok (.iinc 4 1, 3) := by decide +kernel
theorem dX5_boxesOver_39 : decode cX5_boxesOver 39 = .ok (.goto (-27), 3) := by decide +kernel
theorem dX5_boxesOver_42 : decode cX5_boxesOver 42 = .ok (.iconst 0, 1) := by decide +kernel
theorem dX5_boxesOver_43 : decode cX5_boxesOver 43 = .ok (.ireturn, 1) := by decide +kernel
def pX5_boxesOver_b12  (n : Nat) : Int32 → Int32 → Int32 → Int32 → St → Option (Int32 × St) := Nat.rec (fun _ _ _ _ _ => none) (fun _ K12 x1 x2 x3 x4 v => if x3 ≤ x4 then (some (0, v)) else (bnd (pX5_boxIn x2 x4 v) (fun r2 w3 => if r2 = x1 then (some ((x3 - 1) - x4, w3)) else (K12 x1 x2 x3 (x4 + 1) w3)))) n
def pX5_boxesOver (a1 : Int32) (a2 : Int32) (u : St) : Option (Int32 × St) := pX5_boxesOver_b12 100 a1 a2 (rg u 7 a2) 0 u
set_option maxHeartbeats 4000000 in
set_option maxRecDepth 20000 in
theorem kX5_boxesOver {l : Launch} {D : va_G} {Y : Nat → ClassId} {q : Nat → Nat} {a1 a2 : Int32} {u u1 : St} {r : Int32} (hX : pX5_boxesOver a1 a2 u = some (r, u1)) : CMi l yX5_boxesOver cX5_boxesOver 5 (some .int) 2 43 D Y (wC Y q u) (wC Y q u1) [.ref (q 2), .int a1, .int a2] r := by
  refine cm_ofi (by decide) (Nat.le_of_ble_eq_true rfl) rfl (fun p e s m args below meth c A F hr hlk => ?_)
  show GW p l e { frames := 2, cells := 0, slots := 0, locals := 43 } s m args below meth c D A 5 0 0 (MQ below (QI D (wC Y q u1) r A) args s 0 0 A) (wC Y q u) 0 [(0, .ref (q 2)), (1, .int a1), (2, .int a2)] []
  have b12 : ∀  (n : Nat) (x1 : Int32) (x2 : Int32) (x3 : Int32) (x4 : Int32) (v : St), pX5_boxesOver_b12  n x1 x2 x3 x4 v = some (r, u1) → GW p l e { frames := 2, cells := 0, slots := 0, locals := 43 } s m args below meth c D A 5 0 0 (MQ below (QI D (wC Y q u1) r A) args s 0 0 A) (wC Y q v) 12 [(0, .ref (q 2)), (1, .int x1), (2, .int x2), (3, .int x3), (4, .int x4)] [] := by
    intro  n
    induction n with
    | zero => intro x1 x2 x3 x4 v hX; cases hX
    | succ n ih =>
      intro x1 x2 x3 x4 v hX
      obtain ⟨K12, eK⟩ : ∃ K : Int32 → Int32 → Int32 → Int32 → St → Option (Int32 × St), K = pX5_boxesOver_b12  n := ⟨_, rfl⟩
      have hK12 : ∀ (x1 : Int32) (x2 : Int32) (x3 : Int32) (x4 : Int32) (v : St), K12 x1 x2 x3 x4 v = some (r, u1) → GW p l e { frames := 2, cells := 0, slots := 0, locals := 43 } s m args below meth c D A 5 0 0 (MQ below (QI D (wC Y q u1) r A) args s 0 0 A) (wC Y q v) 12 [(0, .ref (q 2)), (1, .int x1), (2, .int x2), (3, .int x3), (4, .int x4)] [] := by rw [eK]; exact ih
      have hX : (if x3 ≤ x4 then (some (0, v)) else (bnd (pX5_boxIn x2 x4 v) (fun r2 w3 => if r2 = x1 then (some ((x3 - 1) - x4, w3)) else (K12 x1 x2 x3 (x4 + 1) w3)))) = some (r, u1) := by rw [eK]; exact hX
      refine g_iload F dX5_boxesOver_12 4 rfl ?_
      refine g_iload_n F dX5_boxesOver_14 3 rfl rfl ?_
      refine g_icmp_ge (tgt := 42) F dX5_boxesOver_15 (by decide) (fun c1 => ?_) (fun c1 => ?_)
      · have hX := if_t hX c1
        refine g_iconst (v := 0) F dX5_boxesOver_42 (by decide) ?_
        exact g_retC (wf := wC Y q) F hr rfl hlk dX5_boxesOver_43 hX
      · have hX := if_f hX c1
        refine g_aload_n F dX5_boxesOver_18 0 rfl rfl ?_
        refine g_iload_n F dX5_boxesOver_19 2 rfl rfl ?_
        refine g_iload F dX5_boxesOver_20 4 rfl ?_
        obtain ⟨r2, w3, hc4, hX⟩ := bnd_s hX
        refine callX5_boxIn F hc4 ml_X5_27 ⟨Nat.le_of_ble_eq_true rfl, Nat.le_of_ble_eq_true rfl⟩ (Nat.le_of_ble_eq_true rfl) dX5_boxesOver_22 ?_
        refine g_iload_n F dX5_boxesOver_25 1 rfl rfl ?_
        refine g_icmp_ne (tgt := 36) F dX5_boxesOver_26 (by decide) (fun c5 => ?_) (fun c5 => ?_)
        · have hX := if_f hX c5
          refine g_iinc (v := x4 + 1) (lv' := [(4, .int (x4 + 1)), (0, .ref (q 2)), (1, .int x1), (2, .int x2), (3, .int x3)]) F dX5_boxesOver_36 4 rfl rfl (by decide) rfl ?_
          refine g_goto (tgt := 12) F dX5_boxesOver_39 (by decide) ?_
          refine g_sub [1, 2, 3, 4, 0] rfl ?_
          exact hK12 x1 x2 x3 (x4 + 1) w3 hX
        · have hX := if_t hX c5
          refine g_iload_n F dX5_boxesOver_29 3 rfl rfl ?_
          refine g_iconst (v := 1) F dX5_boxesOver_30 (by decide) ?_
          refine g_isub F dX5_boxesOver_31 ?_
          refine g_iload F dX5_boxesOver_32 4 rfl ?_
          refine g_isub F dX5_boxesOver_34 ?_
          exact g_retC (wf := wC Y q) F hr rfl hlk dX5_boxesOver_35 hX
  have hX : (pX5_boxesOver_b12 100 a1 a2 (rg u 7 a2) 0 u) = some (r, u1) := hX
  refine g_aload_n F dX5_boxesOver_0 0 rfl rfl ?_
  refine G_X5_14 F dX5_boxesOver_1 ?_
  refine g_iload_n F dX5_boxesOver_4 2 rfl rfl ?_
  refine C_rget F 7 (by decide) ml_X5_23 ⟨Nat.le_of_ble_eq_true rfl, Nat.le_of_ble_eq_true rfl⟩ (Nat.le_of_ble_eq_true rfl) dX5_boxesOver_5 ?_
  refine g_istore_n (lv' := [(3, .int (rg u 7 a2)), (0, .ref (q 2)), (1, .int a1), (2, .int a2)]) F dX5_boxesOver_8 rfl (by decide) rfl ?_
  refine g_iconst (v := 0) F dX5_boxesOver_9 (by decide) ?_
  refine g_istore (lv' := [(4, .int 0), (3, .int (rg u 7 a2)), (0, .ref (q 2)), (1, .int a1), (2, .int a2)]) F dX5_boxesOver_10 (by decide) rfl ?_
  refine g_sub [2, 3, 4, 1, 0] rfl ?_
  exact b12 100 a1 a2 (rg u 7 a2) 0 u hX
theorem callX5_boxesOver {p : Program} {l : Launch} {e : Env} {R : Room} {s : State} {m : MethodId} {args : Array Value} {below : List Frame} {meth : Method} {c : Code} {D : va_G} {Y : Nat → ClassId} {A : Nat → Prop} {cc : ByteArray} {nL : Nat} {own : String} {Q : State → Prop} {pc : Nat} {lv : List (Nat × Value)} {rest : List Value} {q : Nat → Nat} {a1 a2 : Int32} {u u1 : St} {r : Int32} (F : Fx p s m args c D Y A cc nL own) (hX : pX5_boxesOver a1 a2 u = some (r, u1)) {index : Nat} (hml : Cond.methodLink own index yX5_boxesOver ∈ TBL) (hR : 2 + 1 ≤ R.frames ∧ 8 + (5 + 11) + 43 ≤ R.locals) (hcat : (rest.map fun v => v.category).sum ≤ 8) (hd : decode cc pc = .ok (.invokevirtual index, 3)) (kk : GW p l e R s m args below meth c D A nL 0 0 Q (wC Y q u1) (pc + 3) lv (.int r :: rest)) : GW p l e R s m args below meth c D A nL 0 0 Q (wC Y q u) pc lv (.int a2 :: .int a1 :: .ref (q 2) :: rest) := g_callVi (ws := wC Y q u) (n := 2) (q0 := 2) (As := [.int a1, .int a2]) F [] [] (kX5_boxesOver hX) (List.append_nil _).symm (List.append_nil _) (by unfold mOK; decide +kernel) rfl rfl cd_yX5_boxesOver hml im_yX5_boxesOver se_yX5_boxesOver in_X5 rfl rfl hR ⟨Nat.zero_le _, Nat.zero_le _⟩ rfl hcat hd kk
theorem dX5_put_0 : decode cX5_put 0 = .ok (.aload_n 0, 1) := by decide +kernel
theorem dX5_put_1 : decode cX5_put 1 = .ok (.getfield 20, 3) := by decide +kernel
theorem dX5_put_4 : decode cX5_put 4 = .ok (.iload_n 2, 1) := by decide +kernel
theorem dX5_put_5 : decode cX5_put 5 = .ok (.iconst 4, 1) := by decide +kernel
theorem dX5_put_6 : decode cX5_put 6 = .ok (.imul, 1) := by decide +kernel
theorem dX5_put_7 : decode cX5_put 7 = .ok (.aload_n 0, 1) := by decide +kernel
theorem dX5_put_8 : decode cX5_put 8 = .ok (.getfield 14, 3) := by decide +kernel
theorem dX5_put_11 : decode cX5_put 11 = .ok (.iload_n 2, 1) := by decide +kernel
theorem dX5_put_12 : decode cX5_put 12 = .ok (.invokevirtual 23, 3) := by decide +kernel
theorem dX5_put_15 : decode cX5_put 15 = .ok (.iadd, 1) := by decide +kernel
theorem dX5_put_16 : decode cX5_put 16 = .ok (.iload_n 1, 1) := by decide +kernel
theorem dX5_put_17 : decode cX5_put 17 = .ok (.invokevirtual 31, 3) := by decide +kernel
theorem dX5_put_20 : decode cX5_put 20 = .ok (.aload_n 0, 1) := by decide +kernel
theorem dX5_put_21 : decode cX5_put 21 = .ok (.getfield 14, 3) := by decide +kernel
theorem dX5_put_24 : decode cX5_put 24 = .ok (.iload_n 2, 1) := by decide +kernel
theorem dX5_put_25 : decode cX5_put 25 = .ok (.iconst 1, 1) := by decide +kernel
theorem dX5_put_26 : decode cX5_put 26 = .ok (.invokevirtual 34, 3) := by decide +kernel
theorem dX5_put_29 : decode cX5_put 29 = .ok (.return_, 1) := by decide +kernel
def pX5_put (a1 : Int32) (a2 : Int32) (u : St) : Option (Int32 × St) := some (0, ra (rs u 8 ((a2 * 4) + (rg u 7 a2)) a1) 7 a2 1)
set_option maxHeartbeats 4000000 in
set_option maxRecDepth 20000 in
theorem kX5_put {l : Launch} {D : va_G} {Y : Nat → ClassId} {q : Nat → Nat} {a1 a2 : Int32} {u u1 : St} {r : Int32} (hX : pX5_put a1 a2 u = some (r, u1)) : CMv l yX5_put cX5_put 3 1 22 D Y (wC Y q u) (wC Y q u1) [.ref (q 2), .int a1, .int a2] := by
  refine cm_ofv (by decide) (Nat.le_of_ble_eq_true rfl) rfl (fun p e s m args below meth c A F hr hlk => ?_)
  show GW p l e { frames := 1, cells := 0, slots := 0, locals := 22 } s m args below meth c D A 3 0 0 (MQ below (QV D (wC Y q u1) A) args s 0 0 A) (wC Y q u) 0 [(0, .ref (q 2)), (1, .int a1), (2, .int a2)] []
  have hX : (some (0, ra (rs u 8 ((a2 * 4) + (rg u 7 a2)) a1) 7 a2 1)) = some (r, u1) := hX
  refine g_aload_n F dX5_put_0 0 rfl rfl ?_
  refine G_X5_20 F dX5_put_1 ?_
  refine g_iload_n F dX5_put_4 2 rfl rfl ?_
  refine g_iconst (v := 4) F dX5_put_5 (by decide) ?_
  refine g_imul F dX5_put_6 ?_
  refine g_aload_n F dX5_put_7 0 rfl rfl ?_
  refine G_X5_14 F dX5_put_8 ?_
  refine g_iload_n F dX5_put_11 2 rfl rfl ?_
  refine C_rget F 7 (by decide) ml_X5_23 ⟨Nat.le_of_ble_eq_true rfl, Nat.le_of_ble_eq_true rfl⟩ (Nat.le_of_ble_eq_true rfl) dX5_put_12 ?_
  refine g_iadd F dX5_put_15 ?_
  refine g_iload_n F dX5_put_16 1 rfl rfl ?_
  refine C_rset F 8 (by decide) ml_X5_31 ⟨Nat.le_of_ble_eq_true rfl, Nat.le_of_ble_eq_true rfl⟩ (Nat.le_of_ble_eq_true rfl) dX5_put_17 ?_
  refine g_aload_n F dX5_put_20 0 rfl rfl ?_
  refine G_X5_14 F dX5_put_21 ?_
  refine g_iload_n F dX5_put_24 2 rfl rfl ?_
  refine g_iconst (v := 1) F dX5_put_25 (by decide) ?_
  refine C_radd F 7 (by decide) ml_X5_34 ⟨Nat.le_of_ble_eq_true rfl, Nat.le_of_ble_eq_true rfl⟩ (Nat.le_of_ble_eq_true rfl) dX5_put_26 ?_
  exact g_retV (wf := wC Y q) F hr hlk dX5_put_29 hX
theorem callX5_put {p : Program} {l : Launch} {e : Env} {R : Room} {s : State} {m : MethodId} {args : Array Value} {below : List Frame} {meth : Method} {c : Code} {D : va_G} {Y : Nat → ClassId} {A : Nat → Prop} {cc : ByteArray} {nL : Nat} {own : String} {Q : State → Prop} {pc : Nat} {lv : List (Nat × Value)} {rest : List Value} {q : Nat → Nat} {a1 a2 : Int32} {u u1 : St} {r : Int32} (F : Fx p s m args c D Y A cc nL own) (hX : pX5_put a1 a2 u = some (r, u1)) {index : Nat} (hml : Cond.methodLink own index yX5_put ∈ TBL) (hR : 1 + 1 ≤ R.frames ∧ 8 + (3 + 11) + 22 ≤ R.locals) (hcat : (rest.map fun v => v.category).sum ≤ 8) (hd : decode cc pc = .ok (.invokevirtual index, 3)) (kk : GW p l e R s m args below meth c D A nL 0 0 Q (wC Y q u1) (pc + 3) lv (rest)) : GW p l e R s m args below meth c D A nL 0 0 Q (wC Y q u) pc lv (.int a2 :: .int a1 :: .ref (q 2) :: rest) := g_callVv (ws := wC Y q u) (n := 2) (q0 := 2) (As := [.int a1, .int a2]) F [] [] (kX5_put hX) (List.append_nil _).symm (List.append_nil _) (by unfold mOK; decide +kernel) rfl rfl cd_yX5_put hml im_yX5_put se_yX5_put in_X5 rfl rfl hR ⟨Nat.zero_le _, Nat.zero_le _⟩ rfl hcat hd kk
theorem dX5_takeTop_0 : decode cX5_takeTop 0 = .ok (.aload_n 0, 1) := by decide +kernel
theorem dX5_takeTop_1 : decode cX5_takeTop 1 = .ok (.getfield 14, 3) := by decide +kernel
theorem dX5_takeTop_4 : decode cX5_takeTop 4 = .ok (.iload_n 1, 1) := by decide +kernel
theorem dX5_takeTop_5 : decode cX5_takeTop 5 = .ok (.iconst (-1), 1) := by decide +kernel
theorem dX5_takeTop_6 : decode cX5_takeTop 6 = .ok (.invokevirtual 34, 3) := by decide +kernel
theorem dX5_takeTop_9 : decode cX5_takeTop 9 = .ok (.return_, 1) := by decide +kernel
def pX5_takeTop (a1 : Int32) (u : St) : Option (Int32 × St) := some (0, ra u 7 a1 ((-1)))
set_option maxHeartbeats 4000000 in
set_option maxRecDepth 20000 in
theorem kX5_takeTop {l : Launch} {D : va_G} {Y : Nat → ClassId} {q : Nat → Nat} {a1 : Int32} {u u1 : St} {r : Int32} (hX : pX5_takeTop a1 u = some (r, u1)) : CMv l yX5_takeTop cX5_takeTop 2 1 22 D Y (wC Y q u) (wC Y q u1) [.ref (q 2), .int a1] := by
  refine cm_ofv (by decide) (Nat.le_of_ble_eq_true rfl) rfl (fun p e s m args below meth c A F hr hlk => ?_)
  show GW p l e { frames := 1, cells := 0, slots := 0, locals := 22 } s m args below meth c D A 2 0 0 (MQ below (QV D (wC Y q u1) A) args s 0 0 A) (wC Y q u) 0 [(0, .ref (q 2)), (1, .int a1)] []
  have hX : (some (0, ra u 7 a1 ((-1)))) = some (r, u1) := hX
  refine g_aload_n F dX5_takeTop_0 0 rfl rfl ?_
  refine G_X5_14 F dX5_takeTop_1 ?_
  refine g_iload_n F dX5_takeTop_4 1 rfl rfl ?_
  refine g_iconst (v := (-1)) F dX5_takeTop_5 (by decide) ?_
  refine C_radd F 7 (by decide) ml_X5_34 ⟨Nat.le_of_ble_eq_true rfl, Nat.le_of_ble_eq_true rfl⟩ (Nat.le_of_ble_eq_true rfl) dX5_takeTop_6 ?_
  exact g_retV (wf := wC Y q) F hr hlk dX5_takeTop_9 hX
theorem callX5_takeTop {p : Program} {l : Launch} {e : Env} {R : Room} {s : State} {m : MethodId} {args : Array Value} {below : List Frame} {meth : Method} {c : Code} {D : va_G} {Y : Nat → ClassId} {A : Nat → Prop} {cc : ByteArray} {nL : Nat} {own : String} {Q : State → Prop} {pc : Nat} {lv : List (Nat × Value)} {rest : List Value} {q : Nat → Nat} {a1 : Int32} {u u1 : St} {r : Int32} (F : Fx p s m args c D Y A cc nL own) (hX : pX5_takeTop a1 u = some (r, u1)) {index : Nat} (hml : Cond.methodLink own index yX5_takeTop ∈ TBL) (hR : 1 + 1 ≤ R.frames ∧ 8 + (2 + 11) + 22 ≤ R.locals) (hcat : (rest.map fun v => v.category).sum ≤ 8) (hd : decode cc pc = .ok (.invokevirtual index, 3)) (kk : GW p l e R s m args below meth c D A nL 0 0 Q (wC Y q u1) (pc + 3) lv (rest)) : GW p l e R s m args below meth c D A nL 0 0 Q (wC Y q u) pc lv (.int a1 :: .ref (q 2) :: rest) := g_callVv (ws := wC Y q u) (n := 1) (q0 := 2) (As := [.int a1]) F [] [] (kX5_takeTop hX) (List.append_nil _).symm (List.append_nil _) (by unfold mOK; decide +kernel) rfl rfl cd_yX5_takeTop hml im_yX5_takeTop se_yX5_takeTop in_X5 rfl rfl hR ⟨Nat.zero_le _, Nat.zero_le _⟩ rfl hcat hd kk
theorem dX5_clear_0 : decode cX5_clear 0 = .ok (.aload_n 0, 1) := by decide +kernel
theorem dX5_clear_1 : decode cX5_clear 1 = .ok (.getfield 14, 3) := by decide +kernel
theorem dX5_clear_4 : decode cX5_clear 4 = .ok (.iconst 0, 1) := by decide +kernel
theorem dX5_clear_5 : decode cX5_clear 5 = .ok (.invokevirtual 37, 3) := by decide +kernel
theorem dX5_clear_8 : decode cX5_clear 8 = .ok (.return_, 1) := by decide +kernel
def pX5_clear  (u : St) : Option (Int32 × St) := some (0, rf u 7 0)
set_option maxHeartbeats 4000000 in
set_option maxRecDepth 20000 in
theorem kX5_clear {l : Launch} {D : va_G} {Y : Nat → ClassId} {q : Nat → Nat} {u u1 : St} {r : Int32} (hX : pX5_clear u = some (r, u1)) : CMv l yX5_clear cX5_clear 1 1 22 D Y (wC Y q u) (wC Y q u1) [.ref (q 2)] := by
  refine cm_ofv (by decide) (Nat.le_of_ble_eq_true rfl) rfl (fun p e s m args below meth c A F hr hlk => ?_)
  show GW p l e { frames := 1, cells := 0, slots := 0, locals := 22 } s m args below meth c D A 1 0 0 (MQ below (QV D (wC Y q u1) A) args s 0 0 A) (wC Y q u) 0 [(0, .ref (q 2))] []
  have hX : (some (0, rf u 7 0)) = some (r, u1) := hX
  refine g_aload_n F dX5_clear_0 0 rfl rfl ?_
  refine G_X5_14 F dX5_clear_1 ?_
  refine g_iconst (v := 0) F dX5_clear_4 (by decide) ?_
  refine C_rfill F 7 (by decide) ml_X5_37 ⟨Nat.le_of_ble_eq_true rfl, Nat.le_of_ble_eq_true rfl⟩ (Nat.le_of_ble_eq_true rfl) dX5_clear_5 ?_
  exact g_retV (wf := wC Y q) F hr hlk dX5_clear_8 hX
theorem callX5_clear {p : Program} {l : Launch} {e : Env} {R : Room} {s : State} {m : MethodId} {args : Array Value} {below : List Frame} {meth : Method} {c : Code} {D : va_G} {Y : Nat → ClassId} {A : Nat → Prop} {cc : ByteArray} {nL : Nat} {own : String} {Q : State → Prop} {pc : Nat} {lv : List (Nat × Value)} {rest : List Value} {q : Nat → Nat} {u u1 : St} {r : Int32} (F : Fx p s m args c D Y A cc nL own) (hX : pX5_clear u = some (r, u1)) {index : Nat} (hml : Cond.methodLink own index yX5_clear ∈ TBL) (hR : 1 + 1 ≤ R.frames ∧ 8 + (1 + 11) + 22 ≤ R.locals) (hcat : (rest.map fun v => v.category).sum ≤ 8) (hd : decode cc pc = .ok (.invokevirtual index, 3)) (kk : GW p l e R s m args below meth c D A nL 0 0 Q (wC Y q u1) (pc + 3) lv (rest)) : GW p l e R s m args below meth c D A nL 0 0 Q (wC Y q u) pc lv (.ref (q 2) :: rest) := g_callVv (ws := wC Y q u) (n := 0) (q0 := 2) (As := []) F [] [] (kX5_clear hX) (List.append_nil _).symm (List.append_nil _) (by unfold mOK; decide +kernel) rfl rfl cd_yX5_clear hml im_yX5_clear se_yX5_clear in_X5 rfl rfl hR ⟨Nat.zero_le _, Nat.zero_le _⟩ rfl hcat hd kk
