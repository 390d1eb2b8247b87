/-! the class's private methods (by program: wip/whole/gen/gen.py) -/
theorem dX6_isBox_0 : decode cX6_isBox 0 = .ok (.iload_n 1, 1) := by decide +kernel
theorem dX6_isBox_1 : decode cX6_isBox 1 = .ok (.ifCond .lt 18, 3) := by decide +kernel
theorem dX6_isBox_4 : decode cX6_isBox 4 = .ok (.iload_n 1, 1) := by decide +kernel
theorem dX6_isBox_5 : decode cX6_isBox 5 = .ok (.aload_n 0, 1) := by decide +kernel
theorem dX6_isBox_6 : decode cX6_isBox 6 = .ok (.getfield 10, 3) := by decide +kernel
theorem dX6_isBox_9 : decode cX6_isBox 9 = .ok (.getfield 169, 3) := by decide +kernel
theorem dX6_isBox_12 : decode cX6_isBox 12 = .ok (.if_icmp .ge 7, 3) := by decide +kernel
theorem dX6_isBox_15 : decode cX6_isBox 15 = .ok (.iconst 1, 1) := by decide +kernel
theorem dX6_isBox_16 : decode cX6_isBox 16 = .ok (.goto 4, 3) := by decide +kernel
theorem dX6_isBox_19 : decode cX6_isBox 19 = .ok (.iconst 0, 1) := by decide +kernel
theorem dX6_isBox_20 : decode cX6_isBox 20 = .ok (.ireturn, 1) := by decide +kernel
def pX6_isBox_b19   (v : St) : Option (Int32 × St) := some (0, v)
def pX6_isBox (a1 : Int32) (u : St) : Option (Int32 × St) := if a1 < 0 then (pX6_isBox_b19 u) else (if (u.2 6) ≤ a1 then (pX6_isBox_b19 u) else (some (1, u)))
set_option maxHeartbeats 4000000 in
set_option maxRecDepth 20000 in
theorem kX6_isBox {l : Launch} {D : va_G} {Y : Nat → ClassId} {q : Nat → Nat} {a1 : Int32} {u u1 : St} {r : Int32} (hX : pX6_isBox a1 u = some (r, u1)) : CMi l yX6_isBox cX6_isBox 2 (some .boolean) 0 0 D Y (wC Y q u) (wC Y q u1) [.ref (q 0), .int a1] r := by
  refine cm_ofi (by decide) (Nat.le_of_ble_eq_true rfl) rfl (fun p e s m args below meth c A F hr hlk => ?_)
  show GW p l e { frames := 0, cells := 0, slots := 0, locals := 0 } s m args below meth c D A 2 0 0 (MQ below (QI D (wC Y q u1) r A) args s 0 0 A) (wC Y q u) 0 [(0, .ref (q 0)), (1, .int a1)] []
  have b19 : ∀   (v : St), pX6_isBox_b19  v = some (r, u1) → GW p l e { frames := 0, cells := 0, slots := 0, locals := 0 } s m args below meth c D A 2 0 0 (MQ below (QI D (wC Y q u1) r A) args s 0 0 A) (wC Y q v) 19 [] [] := by
    intro  v hX
    have hX : (some (0, v)) = some (r, u1) := hX
    refine g_iconst (v := 0) F dX6_isBox_19 (by decide) ?_
    exact g_retC (wf := wC Y q) F hr rfl hlk dX6_isBox_20 hX
  have hX : (if a1 < 0 then (pX6_isBox_b19 u) else (if (u.2 6) ≤ a1 then (pX6_isBox_b19 u) else (some (1, u)))) = some (r, u1) := hX
  refine g_iload_n F dX6_isBox_0 1 rfl rfl ?_
  refine g_if_lt (tgt := 19) F dX6_isBox_1 (by decide) (fun c1 => ?_) (fun c1 => ?_)
  · have hX := if_t hX c1
    refine g_sub [] rfl ?_
    exact b19 u hX
  · have hX := if_f hX c1
    refine g_iload_n F dX6_isBox_4 1 rfl rfl ?_
    refine g_aload_n F dX6_isBox_5 0 rfl rfl ?_
    refine G_X6_10 F dX6_isBox_6 ?_
    refine G_X6_169 F dX6_isBox_9 ?_
    refine g_icmp_ge (tgt := 19) F dX6_isBox_12 (by decide) (fun c2 => ?_) (fun c2 => ?_)
    · have hX := if_t hX c2
      refine g_sub [] rfl ?_
      exact b19 u hX
    · have hX := if_f hX c2
      refine g_iconst (v := 1) F dX6_isBox_15 (by decide) ?_
      refine g_goto (tgt := 20) F dX6_isBox_16 (by decide) ?_
      exact g_retC (wf := wC Y q) F hr rfl hlk dX6_isBox_20 hX
theorem callX6_isBox {p : Program} {l : Launch} {e : Env} {R : Room} {s : State} {m : MethodId} {args : Array Value} {below : List Frame} {meth : Method} {c : Code} {D : va_G} {Y : Nat → ClassId} {A : Nat → Prop} {cc : ByteArray} {nL : Nat} {own : String} {Q : State → Prop} {pc : Nat} {lv : List (Nat × Value)} {rest : List Value} {q : Nat → Nat} {a1 : Int32} {u u1 : St} {r : Int32} (F : Fx p s m args c D Y A cc nL own) (hX : pX6_isBox a1 u = some (r, u1)) {index : Nat} (hml : Cond.methodLink own index yX6_isBox ∈ TBL) (hR : 0 + 1 ≤ R.frames ∧ 8 + (2 + 11) + 0 ≤ R.locals) (hcat : (rest.map fun v => v.category).sum ≤ 8) (hd : decode cc pc = .ok (.invokevirtual index, 3)) (kk : GW p l e R s m args below meth c D A nL 0 0 Q (wC Y q u1) (pc + 3) lv (.int r :: rest)) : GW p l e R s m args below meth c D A nL 0 0 Q (wC Y q u) pc lv (.int a1 :: .ref (q 0) :: rest) := g_callVi (ws := wC Y q u) (n := 1) (q0 := 0) (As := [.int a1]) F [] [] (kX6_isBox hX) (List.append_nil _).symm (List.append_nil _) (by unfold mOK; decide +kernel) rfl rfl cd_yX6_isBox hml im_yX6_isBox se_yX6_isBox in_X6 rfl rfl hR ⟨Nat.zero_le _, Nat.zero_le _⟩ rfl hcat hd kk
theorem dX6_isOrder_0 : decode cX6_isOrder 0 = .ok (.iload_n 1, 1) := by decide +kernel
theorem dX6_isOrder_1 : decode cX6_isOrder 1 = .ok (.ifCond .lt 18, 3) := by decide +kernel
theorem dX6_isOrder_4 : decode cX6_isOrder 4 = .ok (.iload_n 1, 1) := by decide +kernel
theorem dX6_isOrder_5 : decode cX6_isOrder 5 = .ok (.aload_n 0, 1) := by decide +kernel
theorem dX6_isOrder_6 : decode cX6_isOrder 6 = .ok (.getfield 33, 3) := by decide +kernel
theorem dX6_isOrder_9 : decode cX6_isOrder 9 = .ok (.getfield 218, 3) := by decide +kernel
theorem dX6_isOrder_12 : decode cX6_isOrder 12 = .ok (.if_icmp .ge 7, 3) := by decide +kernel
theorem dX6_isOrder_15 : decode cX6_isOrder 15 = .ok (.iconst 1, 1) := by decide +kernel
theorem dX6_isOrder_16 : decode cX6_isOrder 16 = .ok (.goto 4, 3) := by decide +kernel
theorem dX6_isOrder_19 : decode cX6_isOrder 19 = .ok (.iconst 0, 1) := by decide +kernel
theorem dX6_isOrder_20 : decode cX6_isOrder 20 = .ok (.ireturn, 1) := by decide +kernel
def pX6_isOrder_b19   (v : St) : Option (Int32 × St) := some (0, v)
def pX6_isOrder (a1 : Int32) (u : St) : Option (Int32 × St) := if a1 < 0 then (pX6_isOrder_b19 u) else (if (u.2 8) ≤ a1 then (pX6_isOrder_b19 u) else (some (1, u)))
set_option maxHeartbeats 4000000 in
set_option maxRecDepth 20000 in
theorem kX6_isOrder {l : Launch} {D : va_G} {Y : Nat → ClassId} {q : Nat → Nat} {a1 : Int32} {u u1 : St} {r : Int32} (hX : pX6_isOrder a1 u = some (r, u1)) : CMi l yX6_isOrder cX6_isOrder 2 (some .boolean) 0 0 D Y (wC Y q u) (wC Y q u1) [.ref (q 0), .int a1] r := by
  refine cm_ofi (by decide) (Nat.le_of_ble_eq_true rfl) rfl (fun p e s m args below meth c A F hr hlk => ?_)
  show GW p l e { frames := 0, cells := 0, slots := 0, locals := 0 } s m args below meth c D A 2 0 0 (MQ below (QI D (wC Y q u1) r A) args s 0 0 A) (wC Y q u) 0 [(0, .ref (q 0)), (1, .int a1)] []
  have b19 : ∀   (v : St), pX6_isOrder_b19  v = some (r, u1) → GW p l e { frames := 0, cells := 0, slots := 0, locals := 0 } s m args below meth c D A 2 0 0 (MQ below (QI D (wC Y q u1) r A) args s 0 0 A) (wC Y q v) 19 [] [] := by
    intro  v hX
    have hX : (some (0, v)) = some (r, u1) := hX
    refine g_iconst (v := 0) F dX6_isOrder_19 (by decide) ?_
    exact g_retC (wf := wC Y q) F hr rfl hlk dX6_isOrder_20 hX
  have hX : (if a1 < 0 then (pX6_isOrder_b19 u) else (if (u.2 8) ≤ a1 then (pX6_isOrder_b19 u) else (some (1, u)))) = some (r, u1) := hX
  refine g_iload_n F dX6_isOrder_0 1 rfl rfl ?_
  refine g_if_lt (tgt := 19) F dX6_isOrder_1 (by decide) (fun c1 => ?_) (fun c1 => ?_)
  · have hX := if_t hX c1
    refine g_sub [] rfl ?_
    exact b19 u hX
  · have hX := if_f hX c1
    refine g_iload_n F dX6_isOrder_4 1 rfl rfl ?_
    refine g_aload_n F dX6_isOrder_5 0 rfl rfl ?_
    refine G_X6_33 F dX6_isOrder_6 ?_
    refine G_X6_218 F dX6_isOrder_9 ?_
    refine g_icmp_ge (tgt := 19) F dX6_isOrder_12 (by decide) (fun c2 => ?_) (fun c2 => ?_)
    · have hX := if_t hX c2
      refine g_sub [] rfl ?_
      exact b19 u hX
    · have hX := if_f hX c2
      refine g_iconst (v := 1) F dX6_isOrder_15 (by decide) ?_
      refine g_goto (tgt := 20) F dX6_isOrder_16 (by decide) ?_
      exact g_retC (wf := wC Y q) F hr rfl hlk dX6_isOrder_20 hX
theorem callX6_isOrder {p : Program} {l : Launch} {e : Env} {R : Room} {s : State} {m : MethodId} {args : Array Value} {below : List Frame} {meth : Method} {c : Code} {D : va_G} {Y : Nat → ClassId} {A : Nat → Prop} {cc : ByteArray} {nL : Nat} {own : String} {Q : State → Prop} {pc : Nat} {lv : List (Nat × Value)} {rest : List Value} {q : Nat → Nat} {a1 : Int32} {u u1 : St} {r : Int32} (F : Fx p s m args c D Y A cc nL own) (hX : pX6_isOrder a1 u = some (r, u1)) {index : Nat} (hml : Cond.methodLink own index yX6_isOrder ∈ TBL) (hR : 0 + 1 ≤ R.frames ∧ 8 + (2 + 11) + 0 ≤ R.locals) (hcat : (rest.map fun v => v.category).sum ≤ 8) (hd : decode cc pc = .ok (.invokevirtual index, 3)) (kk : GW p l e R s m args below meth c D A nL 0 0 Q (wC Y q u1) (pc + 3) lv (.int r :: rest)) : GW p l e R s m args below meth c D A nL 0 0 Q (wC Y q u) pc lv (.int a1 :: .ref (q 0) :: rest) := g_callVi (ws := wC Y q u) (n := 1) (q0 := 0) (As := [.int a1]) F [] [] (kX6_isOrder hX) (List.append_nil _).symm (List.append_nil _) (by unfold mOK; decide +kernel) rfl rfl cd_yX6_isOrder hml im_yX6_isOrder se_yX6_isOrder in_X6 rfl rfl hR ⟨Nat.zero_le _, Nat.zero_le _⟩ rfl hcat hd kk
theorem dX6_isAhead_0 : decode cX6_isAhead 0 = .ok (.iload_n 1, 1) := by decide +kernel
theorem dX6_isAhead_1 : decode cX6_isAhead 1 = .ok (.aload_n 0, 1) := by decide +kernel
theorem dX6_isAhead_2 : decode cX6_isAhead 2 = .ok (.getfield 256, 3) := by decide +kernel
theorem dX6_isAhead_5 : decode cX6_isAhead 5 = .ok (.if_icmp .le 18, 3) := by decide +kernel
theorem dX6_isAhead_8 : decode cX6_isAhead 8 = .ok (.aload_n 0, 1) := by decide +kernel
theorem dX6_isAhead_9 : decode cX6_isAhead 9 = .ok (.getfield 49, 3) := by decide +kernel
theorem dX6_isAhead_12 : decode cX6_isAhead 12 = .ok (.iload_n 1, 1) := by decide +kernel
theorem dX6_isAhead_13 : decode cX6_isAhead 13 = .ok (.invokevirtual 81, 3) := by decide +kernel
theorem dX6_isAhead_16 : decode cX6_isAhead 16 = .ok (.ifCond .ne 7, 3) := by decide +kernel
theorem dX6_isAhead_19 : decode cX6_isAhead 19 = .ok (.iconst 1, 1) := by decide +kernel
theorem dX6_isAhead_20 : decode cX6_isAhead 20 = .ok (.goto 4, 3) := by decide +kernel
theorem dX6_isAhead_23 : decode cX6_isAhead 23 = .ok (.iconst 0, 1) := by decide +kernel
theorem dX6_isAhead_24 : decode cX6_isAhead 24 = .ok (.ireturn, 1) := by decide +kernel
def pX6_isAhead_b23   (v : St) : Option (Int32 × St) := some (0, v)
def pX6_isAhead (a1 : Int32) (u : St) : Option (Int32 × St) := if a1 ≤ (u.2 1) then (pX6_isAhead_b23 u) else (if (rg u 21 a1) = 0 then (some (1, u)) else (pX6_isAhead_b23 u))
set_option maxHeartbeats 4000000 in
set_option maxRecDepth 20000 in
theorem kX6_isAhead {l : Launch} {D : va_G} {Y : Nat → ClassId} {q : Nat → Nat} {a1 : Int32} {u u1 : St} {r : Int32} (hX : pX6_isAhead a1 u = some (r, u1)) : CMi l yX6_isAhead cX6_isAhead 2 (some .boolean) 1 21 D Y (wC Y q u) (wC Y q u1) [.ref (q 0), .int a1] r := by
  refine cm_ofi (by decide) (Nat.le_of_ble_eq_true rfl) rfl (fun p e s m args below meth c A F hr hlk => ?_)
  show GW p l e { frames := 1, cells := 0, slots := 0, locals := 21 } s m args below meth c D A 2 0 0 (MQ below (QI D (wC Y q u1) r A) args s 0 0 A) (wC Y q u) 0 [(0, .ref (q 0)), (1, .int a1)] []
  have b23 : ∀   (v : St), pX6_isAhead_b23  v = some (r, u1) → GW p l e { frames := 1, cells := 0, slots := 0, locals := 21 } s m args below meth c D A 2 0 0 (MQ below (QI D (wC Y q u1) r A) args s 0 0 A) (wC Y q v) 23 [] [] := by
    intro  v hX
    have hX : (some (0, v)) = some (r, u1) := hX
    refine g_iconst (v := 0) F dX6_isAhead_23 (by decide) ?_
    exact g_retC (wf := wC Y q) F hr rfl hlk dX6_isAhead_24 hX
  have hX : (if a1 ≤ (u.2 1) then (pX6_isAhead_b23 u) else (if (rg u 21 a1) = 0 then (some (1, u)) else (pX6_isAhead_b23 u))) = some (r, u1) := hX
  refine g_iload_n F dX6_isAhead_0 1 rfl rfl ?_
  refine g_aload_n F dX6_isAhead_1 0 rfl rfl ?_
  refine G_X6_256 F dX6_isAhead_2 ?_
  refine g_icmp_le (tgt := 23) F dX6_isAhead_5 (by decide) (fun c1 => ?_) (fun c1 => ?_)
  · have hX := if_t hX c1
    refine g_sub [] rfl ?_
    exact b23 u hX
  · have hX := if_f hX c1
    refine g_aload_n F dX6_isAhead_8 0 rfl rfl ?_
    refine G_X6_49 F dX6_isAhead_9 ?_
    refine g_iload_n F dX6_isAhead_12 1 rfl rfl ?_
    refine C_rget F 21 (by decide) ml_X6_81 ⟨Nat.le_of_ble_eq_true rfl, Nat.le_of_ble_eq_true rfl⟩ (Nat.le_of_ble_eq_true rfl) dX6_isAhead_13 ?_
    refine g_if_ne (tgt := 23) F dX6_isAhead_16 (by decide) (fun c2 => ?_) (fun c2 => ?_)
    · have hX := if_f hX c2
      refine g_sub [] rfl ?_
      exact b23 u hX
    · have hX := if_t hX c2
      refine g_iconst (v := 1) F dX6_isAhead_19 (by decide) ?_
      refine g_goto (tgt := 24) F dX6_isAhead_20 (by decide) ?_
      exact g_retC (wf := wC Y q) F hr rfl hlk dX6_isAhead_24 hX
theorem callX6_isAhead {p : Program} {l : Launch} {e : Env} {R : Room} {s : State} {m : MethodId} {args : Array Value} {below : List Frame} {meth : Method} {c : Code} {D : va_G} {Y : Nat → ClassId} {A : Nat → Prop} {cc : ByteArray} {nL : Nat} {own : String} {Q : State → Prop} {pc : Nat} {lv : List (Nat × Value)} {rest : List Value} {q : Nat → Nat} {a1 : Int32} {u u1 : St} {r : Int32} (F : Fx p s m args c D Y A cc nL own) (hX : pX6_isAhead a1 u = some (r, u1)) {index : Nat} (hml : Cond.methodLink own index yX6_isAhead ∈ TBL) (hR : 1 + 1 ≤ R.frames ∧ 8 + (2 + 11) + 21 ≤ R.locals) (hcat : (rest.map fun v => v.category).sum ≤ 8) (hd : decode cc pc = .ok (.invokevirtual index, 3)) (kk : GW p l e R s m args below meth c D A nL 0 0 Q (wC Y q u1) (pc + 3) lv (.int r :: rest)) : GW p l e R s m args below meth c D A nL 0 0 Q (wC Y q u) pc lv (.int a1 :: .ref (q 0) :: rest) := g_callVi (ws := wC Y q u) (n := 1) (q0 := 0) (As := [.int a1]) F [] [] (kX6_isAhead hX) (List.append_nil _).symm (List.append_nil _) (by unfold mOK; decide +kernel) rfl rfl cd_yX6_isAhead hml im_yX6_isAhead se_yX6_isAhead in_X6 rfl rfl hR ⟨Nat.zero_le _, Nat.zero_le _⟩ rfl hcat hd kk
theorem dX6_portBehind_0 : decode cX6_portBehind 0 = .ok (.iload_n 1, 1) := by decide +kernel
theorem dX6_portBehind_1 : decode cX6_portBehind 1 = .ok (.iconst 1, 1) := by decide +kernel
theorem dX6_portBehind_2 : decode cX6_portBehind 2 = .ok (.iadd, 1) := by decide +kernel
theorem dX6_portBehind_3 : decode cX6_portBehind 3 = .ok (.istore_n 2, 1) := by decide +kernel
theorem dX6_portBehind_4 : decode cX6_portBehind 4 = .ok (.iload_n 2, 1) := by decide +kernel
theorem dX6_portBehind_5 : decode cX6_portBehind 5 = .ok (.bipush 9, 2) := by decide +kernel
theorem dX6_portBehind_7 : decode cX6_portBehind 7 = .ok (.if_icmp .ge 22, 3) := by decide +kernel
theorem dX6_portBehind_10 : decode cX6_portBehind 10 = .ok (.aload_n 0, 1) := by decide +kernel
theorem dX6_portBehind_11 : decode cX6_portBehind 11 = .ok (.getfield 49, 3) := by decide +kernel
theorem dX6_portBehind_14 : decode cX6_portBehind 14 = .ok (.iload_n 2, 1) := by decide +kernel
theorem dX6_portBehind_15 : decode cX6_portBehind 15 = .ok (.invokevirtual 81, 3) := by decide +kernel
theorem dX6_portBehind_18 : decode cX6_portBehind 18 = .ok (.ifCond .ne 5, 3) := by decide +kernel
theorem dX6_portBehind_21 : decode cX6_portBehind 21 = .ok (.iload_n 2, 1) := by decide +kernel
theorem dX6_portBehind_22 : decode cX6_portBehind 22 = .ok (.ireturn, 1) := by decide +kernel
theorem dX6_portBehind_23 : decode cX6_portBehind 23 = .ok (.iinc 2 1, 3) := by decide +kernel
theorem dX6_portBehind_26 : decode cX6_portBehind 26 = .ok (.goto (-22), 3) := by decide +kernel
theorem dX6_portBehind_29 : decode cX6_portBehind 29 = .ok (.bipush 9, 2) := by decide +kernel
theorem dX6_portBehind_31 : decode cX6_portBehind 31 = .ok (.ireturn, 1) := by decide +kernel
def pX6_portBehind_b4  (n : Nat) : Int32 → St → Option (Int32 × St) := Nat.rec (fun _ _ => none) (fun _ K4 x2 v => if 9 ≤ x2 then (some (9, v)) else (if (rg v 21 x2) = 0 then (some (x2, v)) else (K4 (x2 + 1) v))) n
def pX6_portBehind (a1 : Int32) (u : St) : Option (Int32 × St) := pX6_portBehind_b4 100 (a1 + 1) u
set_option maxHeartbeats 4000000 in
set_option maxRecDepth 20000 in
theorem kX6_portBehind {l : Launch} {D : va_G} {Y : Nat → ClassId} {q : Nat → Nat} {a1 : Int32} {u u1 : St} {r : Int32} (hX : pX6_portBehind a1 u = some (r, u1)) : CMi l yX6_portBehind cX6_portBehind 3 (some .int) 1 21 D Y (wC Y q u) (wC Y q u1) [.ref (q 0), .int a1] r := by
  refine cm_ofi (by decide) (Nat.le_of_ble_eq_true rfl) rfl (fun p e s m args below meth c A F hr hlk => ?_)
  show GW p l e { frames := 1, cells := 0, slots := 0, locals := 21 } s m args below meth c D A 3 0 0 (MQ below (QI D (wC Y q u1) r A) args s 0 0 A) (wC Y q u) 0 [(0, .ref (q 0)), (1, .int a1)] []
  have b4 : ∀  (n : Nat) (x2 : Int32) (v : St), pX6_portBehind_b4  n x2 v = some (r, u1) → GW p l e { frames := 1, cells := 0, slots := 0, locals := 21 } s m args below meth c D A 3 0 0 (MQ below (QI D (wC Y q u1) r A) args s 0 0 A) (wC Y q v) 4 [(0, .ref (q 0)), (2, .int x2)] [] := by
    intro  n
    induction n with
    | zero => intro x2 v hX; cases hX
    | succ n ih =>
      intro x2 v hX
      obtain ⟨K4, eK⟩ : ∃ K : Int32 → St → Option (Int32 × St), K = pX6_portBehind_b4  n := ⟨_, rfl⟩
      have hK4 : ∀ (x2 : Int32) (v : St), K4 x2 v = some (r, u1) → GW p l e { frames := 1, cells := 0, slots := 0, locals := 21 } s m args below meth c D A 3 0 0 (MQ below (QI D (wC Y q u1) r A) args s 0 0 A) (wC Y q v) 4 [(0, .ref (q 0)), (2, .int x2)] [] := by rw [eK]; exact ih
      have hX : (if 9 ≤ x2 then (some (9, v)) else (if (rg v 21 x2) = 0 then (some (x2, v)) else (K4 (x2 + 1) v))) = some (r, u1) := by rw [eK]; exact hX
      refine g_iload_n F dX6_portBehind_4 1 rfl rfl ?_
      refine g_bipush (v := 9) F dX6_portBehind_5 (by decide) ?_
      refine g_icmp_ge (tgt := 29) F dX6_portBehind_7 (by decide) (fun c1 => ?_) (fun c1 => ?_)
      · have hX := if_t hX c1
        refine g_bipush (v := 9) F dX6_portBehind_29 (by decide) ?_
        exact g_retC (wf := wC Y q) F hr rfl hlk dX6_portBehind_31 hX
      · have hX := if_f hX c1
        refine g_aload_n F dX6_portBehind_10 0 rfl rfl ?_
        refine G_X6_49 F dX6_portBehind_11 ?_
        refine g_iload_n F dX6_portBehind_14 1 rfl rfl ?_
        refine C_rget F 21 (by decide) ml_X6_81 ⟨Nat.le_of_ble_eq_true rfl, Nat.le_of_ble_eq_true rfl⟩ (Nat.le_of_ble_eq_true rfl) dX6_portBehind_15 ?_
        refine g_if_ne (tgt := 23) F dX6_portBehind_18 (by decide) (fun c2 => ?_) (fun c2 => ?_)
        · have hX := if_f hX c2
          refine g_iinc (v := x2 + 1) (lv' := [(2, .int (x2 + 1)), (0, .ref (q 0))]) F dX6_portBehind_23 1 rfl rfl (by decide) rfl ?_
          refine g_goto (tgt := 4) F dX6_portBehind_26 (by decide) ?_
          refine g_sub [1, 0] rfl ?_
          exact hK4 (x2 + 1) v hX
        · have hX := if_t hX c2
          refine g_iload_n F dX6_portBehind_21 1 rfl rfl ?_
          exact g_retC (wf := wC Y q) F hr rfl hlk dX6_portBehind_22 hX
  have hX : (pX6_portBehind_b4 100 (a1 + 1) u) = some (r, u1) := hX
  refine g_iload_n F dX6_portBehind_0 1 rfl rfl ?_
  refine g_iconst (v := 1) F dX6_portBehind_1 (by decide) ?_
  refine g_iadd F dX6_portBehind_2 ?_
  refine g_istore_n (lv' := [(2, .int (a1 + 1)), (0, .ref (q 0)), (1, .int a1)]) F dX6_portBehind_3 rfl (by decide) rfl ?_
  refine g_sub [1, 0] rfl ?_
  exact b4 100 (a1 + 1) u hX
theorem callX6_portBehind {p : Program} {l : Launch} {e : Env} {R : Room} {s : State} {m : MethodId} {args : Array Value} {below : List Frame} {meth : Method} {c : Code} {D : va_G} {Y : Nat → ClassId} {A : Nat → Prop} {cc : ByteArray} {nL : Nat} {own : String} {Q : State → Prop} {pc : Nat} {lv : List (Nat × Value)} {rest : List Value} {q : Nat → Nat} {a1 : Int32} {u u1 : St} {r : Int32} (F : Fx p s m args c D Y A cc nL own) (hX : pX6_portBehind a1 u = some (r, u1)) {index : Nat} (hml : Cond.methodLink own index yX6_portBehind ∈ TBL) (hR : 1 + 1 ≤ R.frames ∧ 8 + (3 + 11) + 21 ≤ R.locals) (hcat : (rest.map fun v => v.category).sum ≤ 8) (hd : decode cc pc = .ok (.invokevirtual index, 3)) (kk : GW p l e R s m args below meth c D A nL 0 0 Q (wC Y q u1) (pc + 3) lv (.int r :: rest)) : GW p l e R s m args below meth c D A nL 0 0 Q (wC Y q u) pc lv (.int a1 :: .ref (q 0) :: rest) := g_callVi (ws := wC Y q u) (n := 1) (q0 := 0) (As := [.int a1]) F [] [] (kX6_portBehind hX) (List.append_nil _).symm (List.append_nil _) (by unfold mOK; decide +kernel) rfl rfl cd_yX6_portBehind hml im_yX6_portBehind se_yX6_portBehind in_X6 rfl rfl hR ⟨Nat.zero_le _, Nat.zero_le _⟩ rfl hcat hd kk
theorem dX6_overdueBoxes_0 : decode cX6_overdueBoxes 0 = .ok (.iconst 0, 1) := by decide +kernel
theorem dX6_overdueBoxes_1 : decode cX6_overdueBoxes 1 = .ok (.istore_n 1, 1) := by decide +kernel
theorem dX6_overdueBoxes_2 : decode cX6_overdueBoxes 2 = .ok (.iconst 0, 1) := by decide +kernel
theorem dX6_overdueBoxes_3 : decode cX6_overdueBoxes 3 = .ok (.istore_n 2, 1) := by decide +kernel
theorem dX6_overdueBoxes_4 : decode cX6_overdueBoxes 4 = .ok (.iload_n 2, 1) := by decide +kernel
theorem dX6_overdueBoxes_5 : decode cX6_overdueBoxes 5 = .ok (.aload_n 0, 1) := by decide +kernel
theorem dX6_overdueBoxes_6 : decode cX6_overdueBoxes 6 = .ok (.getfield 10, 3) := by decide +kernel
theorem dX6_overdueBoxes_9 : decode cX6_overdueBoxes 9 = .ok (.getfield 169, 3) := by decide +kernel
theorem dX6_overdueBoxes_12 : decode cX6_overdueBoxes 12 = .ok (.if_icmp .ge 44, 3) := by decide +kernel
theorem dX6_overdueBoxes_15 : decode cX6_overdueBoxes 15 = .ok (.aload_n 0, 1) := by decide +kernel
theorem dX6_overdueBoxes_16 : decode cX6_overdueBoxes 16 = .ok (.getfield 10, 3) := by decide +kernel
theorem dX6_overdueBoxes_19 : decode cX6_overdueBoxes 19 = .ok (.getfield 210, 3) := by decide +kernel
theorem dX6_overdueBoxes_22 : decode cX6_overdueBoxes 22 = .ok (.iload_n 2, 1) := by decide +kernel
theorem dX6_overdueBoxes_23 : decode cX6_overdueBoxes 23 = .ok (.invokevirtual 81, 3) := by decide +kernel
theorem dX6_overdueBoxes_26 : decode cX6_overdueBoxes 26 = .ok (.ifCond .ne 24, 3) := by decide +kernel
theorem dX6_overdueBoxes_29 : decode cX6_overdueBoxes 29 = .ok (.aload_n 0, 1) := by decide +kernel
theorem dX6_overdueBoxes_30 : decode cX6_overdueBoxes 30 = .ok (.aload_n 0, 1) := by decide +kernel
theorem dX6_overdueBoxes_31 : decode cX6_overdueBoxes 31 = .ok (.getfield 10, 3) := by decide +kernel
theorem dX6_overdueBoxes_34 : decode cX6_overdueBoxes 34 = .ok (.getfield 213, 3) := by decide +kernel
theorem dX6_overdueBoxes_37 : decode cX6_overdueBoxes 37 = .ok (.iload_n 2, 1) := by decide +kernel
theorem dX6_overdueBoxes_38 : decode cX6_overdueBoxes 38 = .ok (.invokevirtual 81, 3) := by decide +kernel
theorem dX6_overdueBoxes_41 : decode cX6_overdueBoxes 41 = .ok (.invokevirtual 202, 3) := by decide +kernel
theorem dX6_overdueBoxes_44 : decode cX6_overdueBoxes 44 = .ok (.ifCond .ne 6, 3) := by decide +kernel
theorem dX6_overdueBoxes_47 : decode cX6_overdueBoxes 47 = .ok (.iinc 1 1, 3) := by decide +kernel
theorem dX6_overdueBoxes_50 : decode cX6_overdueBoxes 50 = .ok (.iinc 2 1, 3) := by decide +kernel
theorem dX6_overdueBoxes_53 : decode cX6_overdueBoxes 53 = .ok (.goto (-49), 3) := by decide +kernel
theorem dX6_overdueBoxes_56 : decode cX6_overdueBoxes 56 = .ok (.iload_n 1, 1) := by decide +kernel
theorem dX6_overdueBoxes_57 : decode cX6_overdueBoxes 57 = .ok (.ireturn, 1) := by decide +kernel
def pX6_overdueBoxes_b50 (K4 : Int32 → Int32 → St → Option (Int32 × St)) (x1 : Int32) (x2 : Int32) (v : St) : Option (Int32 × St) := K4 x1 (x2 + 1) v
def pX6_overdueBoxes_b4  (n : Nat) : Int32 → Int32 → St → Option (Int32 × St) := Nat.rec (fun _ _ _ => none) (fun _ K4 x1 x2 v => if (v.2 6) ≤ x2 then (some (x1, v)) else (if (rg v 5 x2) = 0 then (bnd (pX6_isAhead (rg v 2 x2) v) (fun r3 w4 => if r3 = 0 then (pX6_overdueBoxes_b50 K4 (x1 + 1) x2 w4) else (pX6_overdueBoxes_b50 K4 x1 x2 w4))) else (pX6_overdueBoxes_b50 K4 x1 x2 v))) n
def pX6_overdueBoxes  (u : St) : Option (Int32 × St) := pX6_overdueBoxes_b4 100 0 0 u
set_option maxHeartbeats 4000000 in
set_option maxRecDepth 20000 in
theorem kX6_overdueBoxes {l : Launch} {D : va_G} {Y : Nat → ClassId} {q : Nat → Nat} {u u1 : St} {r : Int32} (hX : pX6_overdueBoxes u = some (r, u1)) : CMi l yX6_overdueBoxes cX6_overdueBoxes 3 (some .int) 2 42 D Y (wC Y q u) (wC Y q u1) [.ref (q 0)] r := by
  refine cm_ofi (by decide) (Nat.le_of_ble_eq_true rfl) rfl (fun p e s m args below meth c A F hr hlk => ?_)
  show GW p l e { frames := 2, cells := 0, slots := 0, locals := 42 } s m args below meth c D A 3 0 0 (MQ below (QI D (wC Y q u1) r A) args s 0 0 A) (wC Y q u) 0 [(0, .ref (q 0))] []
  have b50 : ∀ (K4 : Int32 → Int32 → St → Option (Int32 × St)) (hK4 : ∀ (x1 : Int32) (x2 : Int32) (v : St), K4 x1 x2 v = some (r, u1) → GW p l e { frames := 2, cells := 0, slots := 0, locals := 42 } s m args below meth c D A 3 0 0 (MQ below (QI D (wC Y q u1) r A) args s 0 0 A) (wC Y q v) 4 [(0, .ref (q 0)), (1, .int x1), (2, .int x2)] []) (x1 : Int32) (x2 : Int32) (v : St), pX6_overdueBoxes_b50 K4 x1 x2 v = some (r, u1) → GW p l e { frames := 2, cells := 0, slots := 0, locals := 42 } s m args below meth c D A 3 0 0 (MQ below (QI D (wC Y q u1) r A) args s 0 0 A) (wC Y q v) 50 [(0, .ref (q 0)), (1, .int x1), (2, .int x2)] [] := by
    intro K4 hK4 x1 x2 v hX
    have hX : (K4 x1 (x2 + 1) v) = some (r, u1) := hX
    refine g_iinc (v := x2 + 1) (lv' := [(2, .int (x2 + 1)), (0, .ref (q 0)), (1, .int x1)]) F dX6_overdueBoxes_50 2 rfl rfl (by decide) rfl ?_
    refine g_goto (tgt := 4) F dX6_overdueBoxes_53 (by decide) ?_
    refine g_sub [1, 2, 0] rfl ?_
    exact hK4 x1 (x2 + 1) v hX
  have b4 : ∀  (n : Nat) (x1 : Int32) (x2 : Int32) (v : St), pX6_overdueBoxes_b4  n x1 x2 v = some (r, u1) → GW p l e { frames := 2, cells := 0, slots := 0, locals := 42 } s m args below meth c D A 3 0 0 (MQ below (QI D (wC Y q u1) r A) args s 0 0 A) (wC Y q v) 4 [(0, .ref (q 0)), (1, .int x1), (2, .int x2)] [] := by
    intro  n
    induction n with
    | zero => intro x1 x2 v hX; cases hX
    | succ n ih =>
      intro x1 x2 v hX
      obtain ⟨K4, eK⟩ : ∃ K : Int32 → Int32 → St → Option (Int32 × St), K = pX6_overdueBoxes_b4  n := ⟨_, rfl⟩
      have hK4 : ∀ (x1 : Int32) (x2 : Int32) (v : St), K4 x1 x2 v = some (r, u1) → GW p l e { frames := 2, cells := 0, slots := 0, locals := 42 } s m args below meth c D A 3 0 0 (MQ below (QI D (wC Y q u1) r A) args s 0 0 A) (wC Y q v) 4 [(0, .ref (q 0)), (1, .int x1), (2, .int x2)] [] := by rw [eK]; exact ih
      have hX : (if (v.2 6) ≤ x2 then (some (x1, v)) else (if (rg v 5 x2) = 0 then (bnd (pX6_isAhead (rg v 2 x2) v) (fun r3 w4 => if r3 = 0 then (pX6_overdueBoxes_b50 K4 (x1 + 1) x2 w4) else (pX6_overdueBoxes_b50 K4 x1 x2 w4))) else (pX6_overdueBoxes_b50 K4 x1 x2 v))) = some (r, u1) := by rw [eK]; exact hX
      refine g_iload_n F dX6_overdueBoxes_4 2 rfl rfl ?_
      refine g_aload_n F dX6_overdueBoxes_5 0 rfl rfl ?_
      refine G_X6_10 F dX6_overdueBoxes_6 ?_
      refine G_X6_169 F dX6_overdueBoxes_9 ?_
      refine g_icmp_ge (tgt := 56) F dX6_overdueBoxes_12 (by decide) (fun c1 => ?_) (fun c1 => ?_)
      · have hX := if_t hX c1
        refine g_iload_n F dX6_overdueBoxes_56 1 rfl rfl ?_
        exact g_retC (wf := wC Y q) F hr rfl hlk dX6_overdueBoxes_57 hX
      · have hX := if_f hX c1
        refine g_aload_n F dX6_overdueBoxes_15 0 rfl rfl ?_
        refine G_X6_10 F dX6_overdueBoxes_16 ?_
        refine G_X6_210 F dX6_overdueBoxes_19 ?_
        refine g_iload_n F dX6_overdueBoxes_22 2 rfl rfl ?_
        refine C_rget F 5 (by decide) ml_X6_81 ⟨Nat.le_of_ble_eq_true rfl, Nat.le_of_ble_eq_true rfl⟩ (Nat.le_of_ble_eq_true rfl) dX6_overdueBoxes_23 ?_
        refine g_if_ne (tgt := 50) F dX6_overdueBoxes_26 (by decide) (fun c2 => ?_) (fun c2 => ?_)
        · have hX := if_f hX c2
          exact b50 K4 hK4 x1 x2 v hX
        · have hX := if_t hX c2
          refine g_aload_n F dX6_overdueBoxes_29 0 rfl rfl ?_
          refine g_aload_n F dX6_overdueBoxes_30 0 rfl rfl ?_
          refine G_X6_10 F dX6_overdueBoxes_31 ?_
          refine G_X6_213 F dX6_overdueBoxes_34 ?_
          refine g_iload_n F dX6_overdueBoxes_37 2 rfl rfl ?_
          refine C_rget F 2 (by decide) ml_X6_81 ⟨Nat.le_of_ble_eq_true rfl, Nat.le_of_ble_eq_true rfl⟩ (Nat.le_of_ble_eq_true rfl) dX6_overdueBoxes_38 ?_
          obtain ⟨r3, w4, hc5, hX⟩ := bnd_s hX
          refine callX6_isAhead F hc5 ml_X6_202 ⟨Nat.le_of_ble_eq_true rfl, Nat.le_of_ble_eq_true rfl⟩ (Nat.le_of_ble_eq_true rfl) dX6_overdueBoxes_41 ?_
          refine g_if_ne (tgt := 50) F dX6_overdueBoxes_44 (by decide) (fun c6 => ?_) (fun c6 => ?_)
          · have hX := if_f hX c6
            exact b50 K4 hK4 x1 x2 w4 hX
          · have hX := if_t hX c6
            refine g_iinc (v := x1 + 1) (lv' := [(1, .int (x1 + 1)), (0, .ref (q 0)), (2, .int x2)]) F dX6_overdueBoxes_47 1 rfl rfl (by decide) rfl ?_
            refine g_sub [1, 0, 2] rfl ?_
            exact b50 K4 hK4 (x1 + 1) x2 w4 hX
  have hX : (pX6_overdueBoxes_b4 100 0 0 u) = some (r, u1) := hX
  refine g_iconst (v := 0) F dX6_overdueBoxes_0 (by decide) ?_
  refine g_istore_n (lv' := [(1, .int 0), (0, .ref (q 0))]) F dX6_overdueBoxes_1 rfl (by decide) rfl ?_
  refine g_iconst (v := 0) F dX6_overdueBoxes_2 (by decide) ?_
  refine g_istore_n (lv' := [(2, .int 0), (1, .int 0), (0, .ref (q 0))]) F dX6_overdueBoxes_3 rfl (by decide) rfl ?_
  refine g_sub [2, 1, 0] rfl ?_
  exact b4 100 0 0 u hX
theorem callX6_overdueBoxes {p : Program} {l : Launch} {e : Env} {R : Room} {s : State} {m : MethodId} {args : Array Value} {below : List Frame} {meth : Method} {c : Code} {D : va_G} {Y : Nat → ClassId} {A : Nat → Prop} {cc : ByteArray} {nL : Nat} {own : String} {Q : State → Prop} {pc : Nat} {lv : List (Nat × Value)} {rest : List Value} {q : Nat → Nat} {u u1 : St} {r : Int32} (F : Fx p s m args c D Y A cc nL own) (hX : pX6_overdueBoxes u = some (r, u1)) {index : Nat} (hml : Cond.methodLink own index yX6_overdueBoxes ∈ TBL) (hR : 2 + 1 ≤ R.frames ∧ 8 + (3 + 11) + 42 ≤ R.locals) (hcat : (rest.map fun v => v.category).sum ≤ 8) (hd : decode cc pc = .ok (.invokevirtual index, 3)) (kk : GW p l e R s m args below meth c D A nL 0 0 Q (wC Y q u1) (pc + 3) lv (.int r :: rest)) : GW p l e R s m args below meth c D A nL 0 0 Q (wC Y q u) pc lv (.ref (q 0) :: rest) := g_callVi (ws := wC Y q u) (n := 0) (q0 := 0) (As := []) F [] [] (kX6_overdueBoxes hX) (List.append_nil _).symm (List.append_nil _) (by unfold mOK; decide +kernel) rfl rfl cd_yX6_overdueBoxes hml im_yX6_overdueBoxes se_yX6_overdueBoxes in_X6 rfl rfl hR ⟨Nat.zero_le _, Nat.zero_le _⟩ rfl hcat hd kk
theorem dX6_mayBeStacked_0 : decode cX6_mayBeStacked 0 = .ok (.aload_n 0, 1) := by decide +kernel
theorem dX6_mayBeStacked_1 : decode cX6_mayBeStacked 1 = .ok (.getfield 19, 3) := by decide +kernel
theorem dX6_mayBeStacked_4 : decode cX6_mayBeStacked 4 = .ok (.getfield 312, 3) := by decide +kernel
theorem dX6_mayBeStacked_7 : decode cX6_mayBeStacked 7 = .ok (.iload_n 2, 1) := by decide +kernel
theorem dX6_mayBeStacked_8 : decode cX6_mayBeStacked 8 = .ok (.invokevirtual 81, 3) := by decide +kernel
theorem dX6_mayBeStacked_11 : decode cX6_mayBeStacked 11 = .ok (.istore_n 3, 1) := by decide +kernel
theorem dX6_mayBeStacked_12 : decode cX6_mayBeStacked 12 = .ok (.iload_n 3, 1) := by decide +kernel
theorem dX6_mayBeStacked_13 : decode cX6_mayBeStacked 13 = .ok (.ifCond .ne 5, 3) := by decide +kernel
theorem dX6_mayBeStacked_16 : decode cX6_mayBeStacked 16 = .ok (.iconst 1, 1) := by decide +kernel
theorem dX6_mayBeStacked_17 : decode cX6_mayBeStacked 17 = .ok (.ireturn, 1) := by decide +kernel
theorem dX6_mayBeStacked_18 : decode cX6_mayBeStacked 18 = .ok (.iload_n 3, 1) := by decide +kernel
theorem dX6_mayBeStacked_19 : decode cX6_mayBeStacked 19 = .ok (.iconst 4, 1) := by decide +kernel
theorem dX6_mayBeStacked_20 : decode cX6_mayBeStacked 20 = .ok (.if_icmp .ge 26, 3) := by decide +kernel
theorem dX6_mayBeStacked_23 : decode cX6_mayBeStacked 23 = .ok (.aload_n 0, 1) := by decide +kernel
theorem dX6_mayBeStacked_24 : decode cX6_mayBeStacked 24 = .ok (.getfield 10, 3) := by decide +kernel
theorem dX6_mayBeStacked_27 : decode cX6_mayBeStacked 27 = .ok (.aload_n 0, 1) := by decide +kernel
theorem dX6_mayBeStacked_28 : decode cX6_mayBeStacked 28 = .ok (.getfield 19, 3) := by decide +kernel
theorem dX6_mayBeStacked_31 : decode cX6_mayBeStacked 31 = .ok (.iload_n 2, 1) := by decide +kernel
theorem dX6_mayBeStacked_32 : decode cX6_mayBeStacked 32 = .ok (.invokevirtual 315, 3) := by decide +kernel
theorem dX6_mayBeStacked_35 : decode cX6_mayBeStacked 35 = .ok (.iload_n 1, 1) := by decide +kernel
theorem dX6_mayBeStacked_36 : decode cX6_mayBeStacked 36 = .ok (.invokevirtual 318, 3) := by decide +kernel
theorem dX6_mayBeStacked_39 : decode cX6_mayBeStacked 39 = .ok (.ifCond .eq 7, 3) := by decide +kernel
theorem dX6_mayBeStacked_42 : decode cX6_mayBeStacked 42 = .ok (.iconst 1, 1) := by decide +kernel
theorem dX6_mayBeStacked_43 : decode cX6_mayBeStacked 43 = .ok (.goto 4, 3) := by decide +kernel
theorem dX6_mayBeStacked_46 : decode cX6_mayBeStacked 46 = .ok (.iconst 0, 1) := by decide +kernel
theorem dX6_mayBeStacked_47 : decode cX6_mayBeStacked 47 = .ok (.ireturn, 1) := by decide +kernel
def pX6_mayBeStacked_b46   (v : St) : Option (Int32 × St) := some (0, v)
def pX6_mayBeStacked (a1 : Int32) (a2 : Int32) (u : St) : Option (Int32 × St) := if (rg u 7 a2) = 0 then (some (1, u)) else (if 4 ≤ (rg u 7 a2) then (pX6_mayBeStacked_b46 u) else (bnd (pX5_topOf a2 u) (fun r3 w4 => bnd (pX0_mayCarry r3 a1 w4) (fun r6 w7 => if r6 = 0 then (pX6_mayBeStacked_b46 w7) else (some (1, w7))))))
set_option maxHeartbeats 4000000 in
set_option maxRecDepth 20000 in
theorem kX6_mayBeStacked {l : Launch} {D : va_G} {Y : Nat → ClassId} {q : Nat → Nat} {a1 a2 : Int32} {u u1 : St} {r : Int32} (hX : pX6_mayBeStacked a1 a2 u = some (r, u1)) : CMi l yX6_mayBeStacked cX6_mayBeStacked 4 (some .boolean) 2 43 D Y (wC Y q u) (wC Y q u1) [.ref (q 0), .int a1, .int a2] r := by
  refine cm_ofi (by decide) (Nat.le_of_ble_eq_true rfl) rfl (fun p e s m args below meth c A F hr hlk => ?_)
  show GW p l e { frames := 2, cells := 0, slots := 0, locals := 43 } s m args below meth c D A 4 0 0 (MQ below (QI D (wC Y q u1) r A) args s 0 0 A) (wC Y q u) 0 [(0, .ref (q 0)), (1, .int a1), (2, .int a2)] []
  have b46 : ∀   (v : St), pX6_mayBeStacked_b46  v = some (r, u1) → GW p l e { frames := 2, cells := 0, slots := 0, locals := 43 } s m args below meth c D A 4 0 0 (MQ below (QI D (wC Y q u1) r A) args s 0 0 A) (wC Y q v) 46 [] [] := by
    intro  v hX
    have hX : (some (0, v)) = some (r, u1) := hX
    refine g_iconst (v := 0) F dX6_mayBeStacked_46 (by decide) ?_
    exact g_retC (wf := wC Y q) F hr rfl hlk dX6_mayBeStacked_47 hX
  have hX : (if (rg u 7 a2) = 0 then (some (1, u)) else (if 4 ≤ (rg u 7 a2) then (pX6_mayBeStacked_b46 u) else (bnd (pX5_topOf a2 u) (fun r3 w4 => bnd (pX0_mayCarry r3 a1 w4) (fun r6 w7 => if r6 = 0 then (pX6_mayBeStacked_b46 w7) else (some (1, w7))))))) = some (r, u1) := hX
  refine g_aload_n F dX6_mayBeStacked_0 0 rfl rfl ?_
  refine G_X6_19 F dX6_mayBeStacked_1 ?_
  refine G_X6_312 F dX6_mayBeStacked_4 ?_
  refine g_iload_n F dX6_mayBeStacked_7 2 rfl rfl ?_
  refine C_rget F 7 (by decide) ml_X6_81 ⟨Nat.le_of_ble_eq_true rfl, Nat.le_of_ble_eq_true rfl⟩ (Nat.le_of_ble_eq_true rfl) dX6_mayBeStacked_8 ?_
  refine g_istore_n (lv' := [(3, .int (rg u 7 a2)), (0, .ref (q 0)), (1, .int a1), (2, .int a2)]) F dX6_mayBeStacked_11 rfl (by decide) rfl ?_
  refine g_iload_n F dX6_mayBeStacked_12 0 rfl rfl ?_
  refine g_if_ne (tgt := 18) F dX6_mayBeStacked_13 (by decide) (fun c1 => ?_) (fun c1 => ?_)
  · have hX := if_f hX c1
    refine g_iload_n F dX6_mayBeStacked_18 0 rfl rfl ?_
    refine g_iconst (v := 4) F dX6_mayBeStacked_19 (by decide) ?_
    refine g_icmp_ge (tgt := 46) F dX6_mayBeStacked_20 (by decide) (fun c2 => ?_) (fun c2 => ?_)
    · have hX := if_t hX c2
      refine g_sub [] rfl ?_
      exact b46 u hX
    · have hX := if_f hX c2
      refine g_aload_n F dX6_mayBeStacked_23 1 rfl rfl ?_
      refine G_X6_10 F dX6_mayBeStacked_24 ?_
      refine g_aload_n F dX6_mayBeStacked_27 1 rfl rfl ?_
      refine G_X6_19 F dX6_mayBeStacked_28 ?_
      refine g_iload_n F dX6_mayBeStacked_31 3 rfl rfl ?_
      obtain ⟨r3, w4, hc5, hX⟩ := bnd_s hX
      refine callX5_topOf F hc5 ml_X6_315 ⟨Nat.le_of_ble_eq_true rfl, Nat.le_of_ble_eq_true rfl⟩ (Nat.le_of_ble_eq_true rfl) dX6_mayBeStacked_32 ?_
      refine g_iload_n F dX6_mayBeStacked_35 2 rfl rfl ?_
      obtain ⟨r6, w7, hc8, hX⟩ := bnd_s hX
      refine callX0_mayCarry F hc8 ml_X6_318 ⟨Nat.le_of_ble_eq_true rfl, Nat.le_of_ble_eq_true rfl⟩ (Nat.le_of_ble_eq_true rfl) dX6_mayBeStacked_36 ?_
      refine g_if_eq (tgt := 46) F dX6_mayBeStacked_39 (by decide) (fun c9 => ?_) (fun c9 => ?_)
      · have hX := if_t hX c9
        refine g_sub [] rfl ?_
        exact b46 w7 hX
      · have hX := if_f hX c9
        refine g_iconst (v := 1) F dX6_mayBeStacked_42 (by decide) ?_
        refine g_goto (tgt := 47) F dX6_mayBeStacked_43 (by decide) ?_
        exact g_retC (wf := wC Y q) F hr rfl hlk dX6_mayBeStacked_47 hX
  · have hX := if_t hX c1
    refine g_iconst (v := 1) F dX6_mayBeStacked_16 (by decide) ?_
    exact g_retC (wf := wC Y q) F hr rfl hlk dX6_mayBeStacked_17 hX
theorem callX6_mayBeStacked {p : Program} {l : Launch} {e : Env} {R : Room} {s : State} {m : MethodId} {args : Array Value} {below : List Frame} {meth : Method} {c : Code} {D : va_G} {Y : Nat → ClassId} {A : Nat → Prop} {cc : ByteArray} {nL : Nat} {own : String} {Q : State → Prop} {pc : Nat} {lv : List (Nat × Value)} {rest : List Value} {q : Nat → Nat} {a1 a2 : Int32} {u u1 : St} {r : Int32} (F : Fx p s m args c D Y A cc nL own) (hX : pX6_mayBeStacked a1 a2 u = some (r, u1)) {index : Nat} (hml : Cond.methodLink own index yX6_mayBeStacked ∈ TBL) (hR : 2 + 1 ≤ R.frames ∧ 8 + (4 + 11) + 43 ≤ R.locals) (hcat : (rest.map fun v => v.category).sum ≤ 8) (hd : decode cc pc = .ok (.invokevirtual index, 3)) (kk : GW p l e R s m args below meth c D A nL 0 0 Q (wC Y q u1) (pc + 3) lv (.int r :: rest)) : GW p l e R s m args below meth c D A nL 0 0 Q (wC Y q u) pc lv (.int a2 :: .int a1 :: .ref (q 0) :: rest) := g_callVi (ws := wC Y q u) (n := 2) (q0 := 0) (As := [.int a1, .int a2]) F [] [] (kX6_mayBeStacked hX) (List.append_nil _).symm (List.append_nil _) (by unfold mOK; decide +kernel) rfl rfl cd_yX6_mayBeStacked hml im_yX6_mayBeStacked se_yX6_mayBeStacked in_X6 rfl rfl hR ⟨Nat.zero_le _, Nat.zero_le _⟩ rfl hcat hd kk
theorem dX6_isApartIn_0 : decode cX6_isApartIn 0 = .ok (.aload_n 0, 1) := by decide +kernel
theorem dX6_isApartIn_1 : decode cX6_isApartIn 1 = .ok (.getfield 10, 3) := by decide +kernel
theorem dX6_isApartIn_4 : decode cX6_isApartIn 4 = .ok (.getfield 78, 3) := by decide +kernel
theorem dX6_isApartIn_7 : decode cX6_isApartIn 7 = .ok (.iload_n 1, 1) := by decide +kernel
theorem dX6_isApartIn_8 : decode cX6_isApartIn 8 = .ok (.invokevirtual 81, 3) := by decide +kernel
theorem dX6_isApartIn_11 : decode cX6_isApartIn 11 = .ok (.istore_n 3, 1) := by decide +kernel
theorem dX6_isApartIn_12 : decode cX6_isApartIn 12 = .ok (.iconst 0, 1) := by decide +kernel
theorem dX6_isApartIn_13 : decode cX6_isApartIn 13 = .ok (.istore 4, 2) := by decide +kernel
theorem dX6_isApartIn_15 : decode cX6_isApartIn 15 = .ok (.iload 4, 2) := by decide +kernel
theorem dX6_isApartIn_17 : decode cX6_isApartIn 17 = .ok (.aload_n 0, 1) := by decide +kernel
theorem dX6_isApartIn_18 : decode cX6_isApartIn 18 = .ok (.getfield 10, 3) := by decide +kernel
theorem dX6_isApartIn_21 : decode cX6_isApartIn 21 = .ok (.getfield 169, 3) := by decide +kernel
theorem dX6_isApartIn_24 : decode cX6_isApartIn 24 = .ok (.if_icmp .ge 105, 3) := by decide +kernel
theorem dX6_isApartIn_27 : decode cX6_isApartIn 27 = .ok (.aload_n 0, 1) := by decide +kernel
theorem dX6_isApartIn_28 : decode cX6_isApartIn 28 = .ok (.getfield 10, 3) := by decide +kernel
theorem dX6_isApartIn_31 : decode cX6_isApartIn 31 = .ok (.getfield 78, 3) := by decide +kernel
theorem dX6_isApartIn_34 : decode cX6_isApartIn 34 = .ok (.iload 4, 2) := by decide +kernel
theorem dX6_isApartIn_36 : decode cX6_isApartIn 36 = .ok (.invokevirtual 81, 3) := by decide +kernel
theorem dX6_isApartIn_39 : decode cX6_isApartIn 39 = .ok (.istore 5, 2) := by decide +kernel
theorem dX6_isApartIn_41 : decode cX6_isApartIn 41 = .ok (.iload 4, 2) := by decide +kernel
theorem dX6_isApartIn_43 : decode cX6_isApartIn 43 = .ok (.iload_n 1, 1) := by decide +kernel
theorem dX6_isApartIn_44 : decode cX6_isApartIn 44 = .ok (.if_icmp .eq 79, 3) := by decide +kernel
theorem dX6_isApartIn_47 : decode cX6_isApartIn 47 = .ok (.iload 5, 2) := by decide +kernel
theorem dX6_isApartIn_49 : decode cX6_isApartIn 49 = .ok (.iconst 2, 1) := by decide +kernel
theorem dX6_isApartIn_50 : decode cX6_isApartIn 50 = .ok (.if_icmp .lt 73, 3) := by decide +kernel
theorem dX6_isApartIn_53 : decode cX6_isApartIn 53 = .ok (.aload_n 0, 1) := by decide +kernel
theorem dX6_isApartIn_54 : decode cX6_isApartIn 54 = .ok (.getfield 10, 3) := by decide +kernel
theorem dX6_isApartIn_57 : decode cX6_isApartIn 57 = .ok (.getfield 210, 3) := by decide +kernel
theorem dX6_isApartIn_60 : decode cX6_isApartIn 60 = .ok (.iload 4, 2) := by decide +kernel
theorem dX6_isApartIn_62 : decode cX6_isApartIn 62 = .ok (.invokevirtual 81, 3) := by decide +kernel
theorem dX6_isApartIn_65 : decode cX6_isApartIn 65 = .ok (.iconst 1, 1) := by decide +kernel
theorem dX6_isApartIn_66 : decode cX6_isApartIn 66 = .ok (.if_icmp .ne 57, 3) := by decide +kernel
theorem dX6_isApartIn_69 : decode cX6_isApartIn 69 = .ok (.aload_n 0, 1) := by decide +kernel
theorem dX6_isApartIn_70 : decode cX6_isApartIn 70 = .ok (.getfield 10, 3) := by decide +kernel
theorem dX6_isApartIn_73 : decode cX6_isApartIn 73 = .ok (.getfield 261, 3) := by decide +kernel
theorem dX6_isApartIn_76 : decode cX6_isApartIn 76 = .ok (.iload 4, 2) := by decide +kernel
theorem dX6_isApartIn_78 : decode cX6_isApartIn 78 = .ok (.invokevirtual 81, 3) := by decide +kernel
theorem dX6_isApartIn_81 : decode cX6_isApartIn 81 = .ok (.invokestatic 283, 3) := by decide +kernel
theorem dX6_isApartIn_84 : decode cX6_isApartIn 84 = .ok (.iload_n 2, 1) := by decide +kernel
theorem dX6_isApartIn_85 : decode cX6_isApartIn 85 = .ok (.isub, 1) := by decide +kernel
theorem dX6_isApartIn_86 : decode cX6_isApartIn 86 = .ok (.invokestatic 292, 3) := by decide +kernel
theorem dX6_isApartIn_89 : decode cX6_isApartIn 89 = .ok (.istore 6, 2) := by decide +kernel
theorem dX6_isApartIn_91 : decode cX6_isApartIn 91 = .ok (.iload 6, 2) := by decide +kernel
theorem dX6_isApartIn_93 : decode cX6_isApartIn 93 = .ok (.ifCond .ne 11, 3) := by decide +kernel
theorem dX6_isApartIn_96 : decode cX6_isApartIn 96 = .ok (.iload 5, 2) := by decide +kernel
theorem dX6_isApartIn_98 : decode cX6_isApartIn 98 = .ok (.iload_n 3, 1) := by decide +kernel
theorem dX6_isApartIn_99 : decode cX6_isApartIn 99 = .ok (.if_icmp .eq 5, 3) := by decide +kernel
theorem dX6_isApartIn_102 : decode cX6_isApartIn 102 = .ok (.iconst 0, 1) := by decide +kernel
theorem dX6_isApartIn_103 : decode cX6_isApartIn 103 = .ok (.ireturn, 1) := by decide +kernel
theorem dX6_isApartIn_104 : decode cX6_isApartIn 104 = .ok (.iload 6, 2) := by decide +kernel
theorem dX6_isApartIn_106 : decode cX6_isApartIn 106 = .ok (.iconst 1, 1) := by decide +kernel
theorem dX6_isApartIn_107 : decode cX6_isApartIn 107 = .ok (.if_icmp .ne 16, 3) := by decide +kernel
theorem dX6_isApartIn_110 : decode cX6_isApartIn 110 = .ok (.iload 5, 2) := by decide +kernel
theorem dX6_isApartIn_112 : decode cX6_isApartIn 112 = .ok (.iconst 4, 1) := by decide +kernel
theorem dX6_isApartIn_113 : decode cX6_isApartIn 113 = .ok (.if_icmp .eq 8, 3) := by decide +kernel
theorem dX6_isApartIn_116 : decode cX6_isApartIn 116 = .ok (.iload_n 3, 1) := by decide +kernel
theorem dX6_isApartIn_117 : decode cX6_isApartIn 117 = .ok (.iconst 4, 1) := by decide +kernel
theorem dX6_isApartIn_118 : decode cX6_isApartIn 118 = .ok (.if_icmp .ne 5, 3) := by decide +kernel
theorem dX6_isApartIn_121 : decode cX6_isApartIn 121 = .ok (.iconst 0, 1) := by decide +kernel
theorem dX6_isApartIn_122 : decode cX6_isApartIn 122 = .ok (.ireturn, 1) := by decide +kernel
theorem dX6_isApartIn_123 : decode cX6_isApartIn 123 = .ok (.iinc 4 1, 3) := by decide +kernel
theorem dX6_isApartIn_126 : decode cX6_isApartIn 126 = .ok (.goto (-111), 3) := by decide +kernel
theorem dX6_isApartIn_129 : decode cX6_isApartIn 129 = .ok (.iconst 1, 1) := by decide +kernel
theorem dX6_isApartIn_130 : decode cX6_isApartIn 130 = .ok (.ireturn, 1) := by decide +kernel
def pX6_isApartIn_b123 (K15 : Int32 → Int32 → Int32 → Int32 → St → Option (Int32 × St)) (x1 : Int32) (x2 : Int32) (x3 : Int32) (x4 : Int32) (v : St) : Option (Int32 × St) := K15 x1 x2 x3 (x4 + 1) v
def pX6_isApartIn_b121   (v : St) : Option (Int32 × St) := some (0, v)
def pX6_isApartIn_b104 (K15 : Int32 → Int32 → Int32 → Int32 → St → Option (Int32 × St)) (x1 : Int32) (x2 : Int32) (x3 : Int32) (x4 : Int32) (x5 : Int32) (x6 : Int32) (v : St) : Option (Int32 × St) := if x6 = 1 then (if x5 = 4 then (pX6_isApartIn_b121 v) else (if x3 = 4 then (pX6_isApartIn_b121 v) else (pX6_isApartIn_b123 K15 x1 x2 x3 x4 v))) else (pX6_isApartIn_b123 K15 x1 x2 x3 x4 v)
def pX6_isApartIn_b15  (n : Nat) : Int32 → Int32 → Int32 → Int32 → St → Option (Int32 × St) := Nat.rec (fun _ _ _ _ _ => none) (fun _ K15 x1 x2 x3 x4 v => if (v.2 6) ≤ x4 then (some (1, v)) else (if x4 = x1 then (pX6_isApartIn_b123 K15 x1 x2 x3 x4 v) else (if (rg v 3 x4) < 2 then (pX6_isApartIn_b123 K15 x1 x2 x3 x4 v) else (if (rg v 5 x4) = 1 then (if (if 0 ≤ ((pX6_bayOf (rg v 6 x4)) - x2) then ((pX6_bayOf (rg v 6 x4)) - x2) else 0 - ((pX6_bayOf (rg v 6 x4)) - x2)) = 0 then (if (rg v 3 x4) = x3 then (pX6_isApartIn_b104 K15 x1 x2 x3 x4 (rg v 3 x4) (if 0 ≤ ((pX6_bayOf (rg v 6 x4)) - x2) then ((pX6_bayOf (rg v 6 x4)) - x2) else 0 - ((pX6_bayOf (rg v 6 x4)) - x2)) v) else (some (0, v))) else (pX6_isApartIn_b104 K15 x1 x2 x3 x4 (rg v 3 x4) (if 0 ≤ ((pX6_bayOf (rg v 6 x4)) - x2) then ((pX6_bayOf (rg v 6 x4)) - x2) else 0 - ((pX6_bayOf (rg v 6 x4)) - x2)) v)) else (pX6_isApartIn_b123 K15 x1 x2 x3 x4 v))))) n
def pX6_isApartIn (a1 : Int32) (a2 : Int32) (u : St) : Option (Int32 × St) := pX6_isApartIn_b15 100 a1 a2 (rg u 3 a1) 0 u
set_option maxHeartbeats 4000000 in
set_option maxRecDepth 20000 in
theorem kX6_isApartIn {l : Launch} {D : va_G} {Y : Nat → ClassId} {q : Nat → Nat} {a1 a2 : Int32} {u u1 : St} {r : Int32} (hX : pX6_isApartIn a1 a2 u = some (r, u1)) : CMi l yX6_isApartIn cX6_isApartIn 7 (some .boolean) 1 21 D Y (wC Y q u) (wC Y q u1) [.ref (q 0), .int a1, .int a2] r := by
  refine cm_ofi (by decide) (Nat.le_of_ble_eq_true rfl) rfl (fun p e s m args below meth c A F hr hlk => ?_)
  show GW p l e { frames := 1, cells := 0, slots := 0, locals := 21 } s m args below meth c D A 7 0 0 (MQ below (QI D (wC Y q u1) r A) args s 0 0 A) (wC Y q u) 0 [(0, .ref (q 0)), (1, .int a1), (2, .int a2)] []
  have b123 : ∀ (K15 : Int32 → Int32 → Int32 → Int32 → St → Option (Int32 × St)) (hK15 : ∀ (x1 : Int32) (x2 : Int32) (x3 : Int32) (x4 : Int32) (v : St), K15 x1 x2 x3 x4 v = some (r, u1) → GW p l e { frames := 1, cells := 0, slots := 0, locals := 21 } s m args below meth c D A 7 0 0 (MQ below (QI D (wC Y q u1) r A) args s 0 0 A) (wC Y q v) 15 [(0, .ref (q 0)), (1, .int x1), (2, .int x2), (3, .int x3), (4, .int x4)] []) (x1 : Int32) (x2 : Int32) (x3 : Int32) (x4 : Int32) (v : St), pX6_isApartIn_b123 K15 x1 x2 x3 x4 v = some (r, u1) → GW p l e { frames := 1, cells := 0, slots := 0, locals := 21 } s m args below meth c D A 7 0 0 (MQ below (QI D (wC Y q u1) r A) args s 0 0 A) (wC Y q v) 123 [(0, .ref (q 0)), (1, .int x1), (2, .int x2), (3, .int x3), (4, .int x4)] [] := by
    intro K15 hK15 x1 x2 x3 x4 v hX
    have hX : (K15 x1 x2 x3 (x4 + 1) v) = some (r, u1) := hX
    refine g_iinc (v := x4 + 1) (lv' := [(4, .int (x4 + 1)), (0, .ref (q 0)), (1, .int x1), (2, .int x2), (3, .int x3)]) F dX6_isApartIn_123 4 rfl rfl (by decide) rfl ?_
    refine g_goto (tgt := 15) F dX6_isApartIn_126 (by decide) ?_
    refine g_sub [1, 2, 3, 4, 0] rfl ?_
    exact hK15 x1 x2 x3 (x4 + 1) v hX
  have b121 : ∀   (v : St), pX6_isApartIn_b121  v = some (r, u1) → GW p l e { frames := 1, cells := 0, slots := 0, locals := 21 } s m args below meth c D A 7 0 0 (MQ below (QI D (wC Y q u1) r A) args s 0 0 A) (wC Y q v) 121 [] [] := by
    intro  v hX
    have hX : (some (0, v)) = some (r, u1) := hX
    refine g_iconst (v := 0) F dX6_isApartIn_121 (by decide) ?_
    exact g_retC (wf := wC Y q) F hr rfl hlk dX6_isApartIn_122 hX
  have b104 : ∀ (K15 : Int32 → Int32 → Int32 → Int32 → St → Option (Int32 × St)) (hK15 : ∀ (x1 : Int32) (x2 : Int32) (x3 : Int32) (x4 : Int32) (v : St), K15 x1 x2 x3 x4 v = some (r, u1) → GW p l e { frames := 1, cells := 0, slots := 0, locals := 21 } s m args below meth c D A 7 0 0 (MQ below (QI D (wC Y q u1) r A) args s 0 0 A) (wC Y q v) 15 [(0, .ref (q 0)), (1, .int x1), (2, .int x2), (3, .int x3), (4, .int x4)] []) (x1 : Int32) (x2 : Int32) (x3 : Int32) (x4 : Int32) (x5 : Int32) (x6 : Int32) (v : St), pX6_isApartIn_b104 K15 x1 x2 x3 x4 x5 x6 v = some (r, u1) → GW p l e { frames := 1, cells := 0, slots := 0, locals := 21 } s m args below meth c D A 7 0 0 (MQ below (QI D (wC Y q u1) r A) args s 0 0 A) (wC Y q v) 104 [(0, .ref (q 0)), (1, .int x1), (2, .int x2), (3, .int x3), (4, .int x4), (5, .int x5), (6, .int x6)] [] := by
    intro K15 hK15 x1 x2 x3 x4 x5 x6 v hX
    have hX : (if x6 = 1 then (if x5 = 4 then (pX6_isApartIn_b121 v) else (if x3 = 4 then (pX6_isApartIn_b121 v) else (pX6_isApartIn_b123 K15 x1 x2 x3 x4 v))) else (pX6_isApartIn_b123 K15 x1 x2 x3 x4 v)) = some (r, u1) := hX
    refine g_iload F dX6_isApartIn_104 6 rfl ?_
    refine g_iconst (v := 1) F dX6_isApartIn_106 (by decide) ?_
    refine g_icmp_ne (tgt := 123) F dX6_isApartIn_107 (by decide) (fun c6 => ?_) (fun c6 => ?_)
    · have hX := if_f hX c6
      refine g_sub [0, 1, 2, 3, 4] rfl ?_
      exact b123 K15 hK15 x1 x2 x3 x4 v hX
    · have hX := if_t hX c6
      refine g_iload F dX6_isApartIn_110 5 rfl ?_
      refine g_iconst (v := 4) F dX6_isApartIn_112 (by decide) ?_
      refine g_icmp_eq (tgt := 121) F dX6_isApartIn_113 (by decide) (fun c7 => ?_) (fun c7 => ?_)
      · have hX := if_t hX c7
        refine g_sub [] rfl ?_
        exact b121 v hX
      · have hX := if_f hX c7
        refine g_iload_n F dX6_isApartIn_116 3 rfl rfl ?_
        refine g_iconst (v := 4) F dX6_isApartIn_117 (by decide) ?_
        refine g_icmp_ne (tgt := 123) F dX6_isApartIn_118 (by decide) (fun c8 => ?_) (fun c8 => ?_)
        · have hX := if_f hX c8
          refine g_sub [0, 1, 2, 3, 4] rfl ?_
          exact b123 K15 hK15 x1 x2 x3 x4 v hX
        · have hX := if_t hX c8
          refine g_sub [] rfl ?_
          exact b121 v hX
  have b15 : ∀  (n : Nat) (x1 : Int32) (x2 : Int32) (x3 : Int32) (x4 : Int32) (v : St), pX6_isApartIn_b15  n x1 x2 x3 x4 v = some (r, u1) → GW p l e { frames := 1, cells := 0, slots := 0, locals := 21 } s m args below meth c D A 7 0 0 (MQ below (QI D (wC Y q u1) r A) args s 0 0 A) (wC Y q v) 15 [(0, .ref (q 0)), (1, .int x1), (2, .int x2), (3, .int x3), (4, .int x4)] [] := by
    intro  n
    induction n with
    | zero => intro x1 x2 x3 x4 v hX; cases hX
    | succ n ih =>
      intro x1 x2 x3 x4 v hX
      obtain ⟨K15, eK⟩ : ∃ K : Int32 → Int32 → Int32 → Int32 → St → Option (Int32 × St), K = pX6_isApartIn_b15  n := ⟨_, rfl⟩
      have hK15 : ∀ (x1 : Int32) (x2 : Int32) (x3 : Int32) (x4 : Int32) (v : St), K15 x1 x2 x3 x4 v = some (r, u1) → GW p l e { frames := 1, cells := 0, slots := 0, locals := 21 } s m args below meth c D A 7 0 0 (MQ below (QI D (wC Y q u1) r A) args s 0 0 A) (wC Y q v) 15 [(0, .ref (q 0)), (1, .int x1), (2, .int x2), (3, .int x3), (4, .int x4)] [] := by rw [eK]; exact ih
      have hX : (if (v.2 6) ≤ x4 then (some (1, v)) else (if x4 = x1 then (pX6_isApartIn_b123 K15 x1 x2 x3 x4 v) else (if (rg v 3 x4) < 2 then (pX6_isApartIn_b123 K15 x1 x2 x3 x4 v) else (if (rg v 5 x4) = 1 then (if (if 0 ≤ ((pX6_bayOf (rg v 6 x4)) - x2) then ((pX6_bayOf (rg v 6 x4)) - x2) else 0 - ((pX6_bayOf (rg v 6 x4)) - x2)) = 0 then (if (rg v 3 x4) = x3 then (pX6_isApartIn_b104 K15 x1 x2 x3 x4 (rg v 3 x4) (if 0 ≤ ((pX6_bayOf (rg v 6 x4)) - x2) then ((pX6_bayOf (rg v 6 x4)) - x2) else 0 - ((pX6_bayOf (rg v 6 x4)) - x2)) v) else (some (0, v))) else (pX6_isApartIn_b104 K15 x1 x2 x3 x4 (rg v 3 x4) (if 0 ≤ ((pX6_bayOf (rg v 6 x4)) - x2) then ((pX6_bayOf (rg v 6 x4)) - x2) else 0 - ((pX6_bayOf (rg v 6 x4)) - x2)) v)) else (pX6_isApartIn_b123 K15 x1 x2 x3 x4 v))))) = some (r, u1) := by rw [eK]; exact hX
      refine g_iload F dX6_isApartIn_15 4 rfl ?_
      refine g_aload_n F dX6_isApartIn_17 0 rfl rfl ?_
      refine G_X6_10 F dX6_isApartIn_18 ?_
      refine G_X6_169 F dX6_isApartIn_21 ?_
      refine g_icmp_ge (tgt := 129) F dX6_isApartIn_24 (by decide) (fun c1 => ?_) (fun c1 => ?_)
      · have hX := if_t hX c1
        refine g_iconst (v := 1) F dX6_isApartIn_129 (by decide) ?_
        exact g_retC (wf := wC Y q) F hr rfl hlk dX6_isApartIn_130 hX
      · have hX := if_f hX c1
        refine g_aload_n F dX6_isApartIn_27 0 rfl rfl ?_
        refine G_X6_10 F dX6_isApartIn_28 ?_
        refine G_X6_78 F dX6_isApartIn_31 ?_
        refine g_iload F dX6_isApartIn_34 4 rfl ?_
        refine C_rget F 3 (by decide) ml_X6_81 ⟨Nat.le_of_ble_eq_true rfl, Nat.le_of_ble_eq_true rfl⟩ (Nat.le_of_ble_eq_true rfl) dX6_isApartIn_36 ?_
        refine g_istore (lv' := [(5, .int (rg v 3 x4)), (0, .ref (q 0)), (1, .int x1), (2, .int x2), (3, .int x3), (4, .int x4)]) F dX6_isApartIn_39 (by decide) rfl ?_
        refine g_iload F dX6_isApartIn_41 5 rfl ?_
        refine g_iload_n F dX6_isApartIn_43 2 rfl rfl ?_
        refine g_icmp_eq (tgt := 123) F dX6_isApartIn_44 (by decide) (fun c2 => ?_) (fun c2 => ?_)
        · have hX := if_t hX c2
          refine g_sub [1, 2, 3, 4, 5] rfl ?_
          exact b123 K15 hK15 x1 x2 x3 x4 v hX
        · have hX := if_f hX c2
          refine g_iload F dX6_isApartIn_47 0 rfl ?_
          refine g_iconst (v := 2) F dX6_isApartIn_49 (by decide) ?_
          refine g_icmp_lt (tgt := 123) F dX6_isApartIn_50 (by decide) (fun c3 => ?_) (fun c3 => ?_)
          · have hX := if_t hX c3
            refine g_sub [1, 2, 3, 4, 5] rfl ?_
            exact b123 K15 hK15 x1 x2 x3 x4 v hX
          · have hX := if_f hX c3
            refine g_aload_n F dX6_isApartIn_53 1 rfl rfl ?_
            refine G_X6_10 F dX6_isApartIn_54 ?_
            refine G_X6_210 F dX6_isApartIn_57 ?_
            refine g_iload F dX6_isApartIn_60 5 rfl ?_
            refine C_rget F 5 (by decide) ml_X6_81 ⟨Nat.le_of_ble_eq_true rfl, Nat.le_of_ble_eq_true rfl⟩ (Nat.le_of_ble_eq_true rfl) dX6_isApartIn_62 ?_
            refine g_iconst (v := 1) F dX6_isApartIn_65 (by decide) ?_
            refine g_icmp_ne (tgt := 123) F dX6_isApartIn_66 (by decide) (fun c4 => ?_) (fun c4 => ?_)
            · have hX := if_f hX c4
              refine g_sub [1, 2, 3, 4, 5] rfl ?_
              exact b123 K15 hK15 x1 x2 x3 x4 v hX
            · have hX := if_t hX c4
              refine g_aload_n F dX6_isApartIn_69 1 rfl rfl ?_
              refine G_X6_10 F dX6_isApartIn_70 ?_
              refine G_X6_261 F dX6_isApartIn_73 ?_
              refine g_iload F dX6_isApartIn_76 5 rfl ?_
              refine C_rget F 6 (by decide) ml_X6_81 ⟨Nat.le_of_ble_eq_true rfl, Nat.le_of_ble_eq_true rfl⟩ (Nat.le_of_ble_eq_true rfl) dX6_isApartIn_78 ?_
              refine callX6_bayOf F ml_X6_283 ⟨Nat.le_of_ble_eq_true rfl, Nat.le_of_ble_eq_true rfl⟩ (Nat.le_of_ble_eq_true rfl) dX6_isApartIn_81 ?_
              refine g_iload_n F dX6_isApartIn_84 3 rfl rfl ?_
              refine g_isub F dX6_isApartIn_85 ?_
              refine g_abs F ml_X6_292 (Nat.le_of_ble_eq_true rfl) (Nat.le_of_ble_eq_true rfl) (Nat.zero_le _) (Nat.zero_le _) dX6_isApartIn_86 ?_
              refine g_istore (lv' := [(6, .int (if 0 ≤ ((pX6_bayOf (rg v 6 x4)) - x2) then ((pX6_bayOf (rg v 6 x4)) - x2) else 0 - ((pX6_bayOf (rg v 6 x4)) - x2))), (5, .int (rg v 3 x4)), (0, .ref (q 0)), (1, .int x1), (2, .int x2), (3, .int x3), (4, .int x4)]) F dX6_isApartIn_89 (by decide) rfl ?_
              refine g_iload F dX6_isApartIn_91 0 rfl ?_
              refine g_if_ne (tgt := 104) F dX6_isApartIn_93 (by decide) (fun c5 => ?_) (fun c5 => ?_)
              · have hX := if_f hX c5
                refine g_sub [2, 3, 4, 5, 6, 1, 0] rfl ?_
                exact b104 K15 hK15 x1 x2 x3 x4 (rg v 3 x4) (if 0 ≤ ((pX6_bayOf (rg v 6 x4)) - x2) then ((pX6_bayOf (rg v 6 x4)) - x2) else 0 - ((pX6_bayOf (rg v 6 x4)) - x2)) v hX
              · have hX := if_t hX c5
                refine g_iload F dX6_isApartIn_96 1 rfl ?_
                refine g_iload_n F dX6_isApartIn_98 5 rfl rfl ?_
                refine g_icmp_eq (tgt := 104) F dX6_isApartIn_99 (by decide) (fun c9 => ?_) (fun c9 => ?_)
                · have hX := if_t hX c9
                  refine g_sub [2, 3, 4, 5, 6, 1, 0] rfl ?_
                  exact b104 K15 hK15 x1 x2 x3 x4 (rg v 3 x4) (if 0 ≤ ((pX6_bayOf (rg v 6 x4)) - x2) then ((pX6_bayOf (rg v 6 x4)) - x2) else 0 - ((pX6_bayOf (rg v 6 x4)) - x2)) v hX
                · have hX := if_f hX c9
                  refine g_iconst (v := 0) F dX6_isApartIn_102 (by decide) ?_
                  exact g_retC (wf := wC Y q) F hr rfl hlk dX6_isApartIn_103 hX
  have hX : (pX6_isApartIn_b15 100 a1 a2 (rg u 3 a1) 0 u) = some (r, u1) := hX
  refine g_aload_n F dX6_isApartIn_0 0 rfl rfl ?_
  refine G_X6_10 F dX6_isApartIn_1 ?_
  refine G_X6_78 F dX6_isApartIn_4 ?_
  refine g_iload_n F dX6_isApartIn_7 1 rfl rfl ?_
  refine C_rget F 3 (by decide) ml_X6_81 ⟨Nat.le_of_ble_eq_true rfl, Nat.le_of_ble_eq_true rfl⟩ (Nat.le_of_ble_eq_true rfl) dX6_isApartIn_8 ?_
  refine g_istore_n (lv' := [(3, .int (rg u 3 a1)), (0, .ref (q 0)), (1, .int a1), (2, .int a2)]) F dX6_isApartIn_11 rfl (by decide) rfl ?_
  refine g_iconst (v := 0) F dX6_isApartIn_12 (by decide) ?_
  refine g_istore (lv' := [(4, .int 0), (3, .int (rg u 3 a1)), (0, .ref (q 0)), (1, .int a1), (2, .int a2)]) F dX6_isApartIn_13 (by decide) rfl ?_
  refine g_sub [2, 3, 4, 1, 0] rfl ?_
  exact b15 100 a1 a2 (rg u 3 a1) 0 u hX
theorem callX6_isApartIn {p : Program} {l : Launch} {e : Env} {R : Room} {s : State} {m : MethodId} {args : Array Value} {below : List Frame} {meth : Method} {c : Code} {D : va_G} {Y : Nat → ClassId} {A : Nat → Prop} {cc : ByteArray} {nL : Nat} {own : String} {Q : State → Prop} {pc : Nat} {lv : List (Nat × Value)} {rest : List Value} {q : Nat → Nat} {a1 a2 : Int32} {u u1 : St} {r : Int32} (F : Fx p s m args c D Y A cc nL own) (hX : pX6_isApartIn a1 a2 u = some (r, u1)) {index : Nat} (hml : Cond.methodLink own index yX6_isApartIn ∈ TBL) (hR : 1 + 1 ≤ R.frames ∧ 8 + (7 + 11) + 21 ≤ R.locals) (hcat : (rest.map fun v => v.category).sum ≤ 8) (hd : decode cc pc = .ok (.invokevirtual index, 3)) (kk : GW p l e R s m args below meth c D A nL 0 0 Q (wC Y q u1) (pc + 3) lv (.int r :: rest)) : GW p l e R s m args below meth c D A nL 0 0 Q (wC Y q u) pc lv (.int a2 :: .int a1 :: .ref (q 0) :: rest) := g_callVi (ws := wC Y q u) (n := 2) (q0 := 0) (As := [.int a1, .int a2]) F [] [] (kX6_isApartIn hX) (List.append_nil _).symm (List.append_nil _) (by unfold mOK; decide +kernel) rfl rfl cd_yX6_isApartIn hml im_yX6_isApartIn se_yX6_isApartIn in_X6 rfl rfl hR ⟨Nat.zero_le _, Nat.zero_le _⟩ rfl hcat hd kk
theorem dX6_mayBeIn_0 : decode cX6_mayBeIn 0 = .ok (.aload_n 0, 1) := by decide +kernel
theorem dX6_mayBeIn_1 : decode cX6_mayBeIn 1 = .ok (.getfield 26, 3) := by decide +kernel
theorem dX6_mayBeIn_4 : decode cX6_mayBeIn 4 = .ok (.iload_n 2, 1) := by decide +kernel
theorem dX6_mayBeIn_5 : decode cX6_mayBeIn 5 = .ok (.invokevirtual 74, 3) := by decide +kernel
theorem dX6_mayBeIn_8 : decode cX6_mayBeIn 8 = .ok (.istore_n 3, 1) := by decide +kernel
theorem dX6_mayBeIn_9 : decode cX6_mayBeIn 9 = .ok (.iload_n 3, 1) := by decide +kernel
theorem dX6_mayBeIn_10 : decode cX6_mayBeIn 10 = .ok (.iconst (-1), 1) := by decide +kernel
theorem dX6_mayBeIn_11 : decode cX6_mayBeIn 11 = .ok (.if_icmp .eq 10, 3) := by decide +kernel
theorem dX6_mayBeIn_14 : decode cX6_mayBeIn 14 = .ok (.iload_n 3, 1) := by decide +kernel
theorem dX6_mayBeIn_15 : decode cX6_mayBeIn 15 = .ok (.iload_n 1, 1) := by decide +kernel
theorem dX6_mayBeIn_16 : decode cX6_mayBeIn 16 = .ok (.if_icmp .eq 5, 3) := by decide +kernel
theorem dX6_mayBeIn_19 : decode cX6_mayBeIn 19 = .ok (.iconst 0, 1) := by decide +kernel
theorem dX6_mayBeIn_20 : decode cX6_mayBeIn 20 = .ok (.ireturn, 1) := by decide +kernel
theorem dX6_mayBeIn_21 : decode cX6_mayBeIn 21 = .ok (.iload_n 2, 1) := by decide +kernel
theorem dX6_mayBeIn_22 : decode cX6_mayBeIn 22 = .ok (.invokestatic 297, 3) := by decide +kernel
theorem dX6_mayBeIn_25 : decode cX6_mayBeIn 25 = .ok (.aload_n 0, 1) := by decide +kernel
theorem dX6_mayBeIn_26 : decode cX6_mayBeIn 26 = .ok (.getfield 26, 3) := by decide +kernel
theorem dX6_mayBeIn_29 : decode cX6_mayBeIn 29 = .ok (.iload_n 2, 1) := by decide +kernel
theorem dX6_mayBeIn_30 : decode cX6_mayBeIn 30 = .ok (.invokestatic 283, 3) := by decide +kernel
theorem dX6_mayBeIn_33 : decode cX6_mayBeIn 33 = .ok (.invokevirtual 271, 3) := by decide +kernel
theorem dX6_mayBeIn_36 : decode cX6_mayBeIn 36 = .ok (.if_icmp .eq 5, 3) := by decide +kernel
theorem dX6_mayBeIn_39 : decode cX6_mayBeIn 39 = .ok (.iconst 0, 1) := by decide +kernel
theorem dX6_mayBeIn_40 : decode cX6_mayBeIn 40 = .ok (.ireturn, 1) := by decide +kernel
theorem dX6_mayBeIn_41 : decode cX6_mayBeIn 41 = .ok (.iload_n 2, 1) := by decide +kernel
theorem dX6_mayBeIn_42 : decode cX6_mayBeIn 42 = .ok (.invokestatic 321, 3) := by decide +kernel
theorem dX6_mayBeIn_45 : decode cX6_mayBeIn 45 = .ok (.ifCond .eq 54, 3) := by decide +kernel
theorem dX6_mayBeIn_48 : decode cX6_mayBeIn 48 = .ok (.aload_n 0, 1) := by decide +kernel
theorem dX6_mayBeIn_49 : decode cX6_mayBeIn 49 = .ok (.getfield 26, 3) := by decide +kernel
theorem dX6_mayBeIn_52 : decode cX6_mayBeIn 52 = .ok (.iload_n 2, 1) := by decide +kernel
theorem dX6_mayBeIn_53 : decode cX6_mayBeIn 53 = .ok (.iconst 1, 1) := by decide +kernel
theorem dX6_mayBeIn_54 : decode cX6_mayBeIn 54 = .ok (.isub, 1) := by decide +kernel
theorem dX6_mayBeIn_55 : decode cX6_mayBeIn 55 = .ok (.invokevirtual 74, 3) := by decide +kernel
theorem dX6_mayBeIn_58 : decode cX6_mayBeIn 58 = .ok (.istore 4, 2) := by decide +kernel
theorem dX6_mayBeIn_60 : decode cX6_mayBeIn 60 = .ok (.iload 4, 2) := by decide +kernel
theorem dX6_mayBeIn_62 : decode cX6_mayBeIn 62 = .ok (.iconst (-1), 1) := by decide +kernel
theorem dX6_mayBeIn_63 : decode cX6_mayBeIn 63 = .ok (.if_icmp .eq 9, 3) := by decide +kernel
theorem dX6_mayBeIn_66 : decode cX6_mayBeIn 66 = .ok (.iload 4, 2) := by decide +kernel
theorem dX6_mayBeIn_68 : decode cX6_mayBeIn 68 = .ok (.iload_n 1, 1) := by decide +kernel
theorem dX6_mayBeIn_69 : decode cX6_mayBeIn 69 = .ok (.if_icmp .ne 5, 3) := by decide +kernel
theorem dX6_mayBeIn_72 : decode cX6_mayBeIn 72 = .ok (.iconst 0, 1) := by decide +kernel
theorem dX6_mayBeIn_73 : decode cX6_mayBeIn 73 = .ok (.ireturn, 1) := by decide +kernel
theorem dX6_mayBeIn_74 : decode cX6_mayBeIn 74 = .ok (.aload_n 0, 1) := by decide +kernel
theorem dX6_mayBeIn_75 : decode cX6_mayBeIn 75 = .ok (.getfield 10, 3) := by decide +kernel
theorem dX6_mayBeIn_78 : decode cX6_mayBeIn 78 = .ok (.iload 4, 2) := by decide +kernel
theorem dX6_mayBeIn_80 : decode cX6_mayBeIn 80 = .ok (.aload_n 0, 1) := by decide +kernel
theorem dX6_mayBeIn_81 : decode cX6_mayBeIn 81 = .ok (.getfield 10, 3) := by decide +kernel
theorem dX6_mayBeIn_84 : decode cX6_mayBeIn 84 = .ok (.getfield 258, 3) := by decide +kernel
theorem dX6_mayBeIn_87 : decode cX6_mayBeIn 87 = .ok (.iload_n 1, 1) := by decide +kernel
theorem dX6_mayBeIn_88 : decode cX6_mayBeIn 88 = .ok (.invokevirtual 81, 3) := by decide +kernel
theorem dX6_mayBeIn_91 : decode cX6_mayBeIn 91 = .ok (.invokevirtual 318, 3) := by decide +kernel
theorem dX6_mayBeIn_94 : decode cX6_mayBeIn 94 = .ok (.ifCond .ne 5, 3) := by decide +kernel
theorem dX6_mayBeIn_97 : decode cX6_mayBeIn 97 = .ok (.iconst 0, 1) := by decide +kernel
theorem dX6_mayBeIn_98 : decode cX6_mayBeIn 98 = .ok (.ireturn, 1) := by decide +kernel
theorem dX6_mayBeIn_99 : decode cX6_mayBeIn 99 = .ok (.aload_n 0, 1) := by decide +kernel
theorem dX6_mayBeIn_100 : decode cX6_mayBeIn 100 = .ok (.getfield 10, 3) := by decide +kernel
theorem dX6_mayBeIn_103 : decode cX6_mayBeIn 103 = .ok (.getfield 78, 3) := by decide +kernel
theorem dX6_mayBeIn_106 : decode cX6_mayBeIn 106 = .ok (.iload_n 1, 1) := by decide +kernel
theorem dX6_mayBeIn_107 : decode cX6_mayBeIn 107 = .ok (.invokevirtual 81, 3) := by decide +kernel
theorem dX6_mayBeIn_110 : decode cX6_mayBeIn 110 = .ok (.istore 4, 2) := by decide +kernel
theorem dX6_mayBeIn_112 : decode cX6_mayBeIn 112 = .ok (.iload 4, 2) := by decide +kernel
theorem dX6_mayBeIn_114 : decode cX6_mayBeIn 114 = .ok (.iconst 1, 1) := by decide +kernel
theorem dX6_mayBeIn_115 : decode cX6_mayBeIn 115 = .ok (.if_icmp .ne 12, 3) := by decide +kernel
theorem dX6_mayBeIn_118 : decode cX6_mayBeIn 118 = .ok (.aload_n 0, 1) := by decide +kernel
theorem dX6_mayBeIn_119 : decode cX6_mayBeIn 119 = .ok (.getfield 26, 3) := by decide +kernel
theorem dX6_mayBeIn_122 : decode cX6_mayBeIn 122 = .ok (.iload_n 2, 1) := by decide +kernel
theorem dX6_mayBeIn_123 : decode cX6_mayBeIn 123 = .ok (.invokevirtual 93, 3) := by decide +kernel
theorem dX6_mayBeIn_126 : decode cX6_mayBeIn 126 = .ok (.ireturn, 1) := by decide +kernel
theorem dX6_mayBeIn_127 : decode cX6_mayBeIn 127 = .ok (.iload 4, 2) := by decide +kernel
theorem dX6_mayBeIn_129 : decode cX6_mayBeIn 129 = .ok (.iconst 2, 1) := by decide +kernel
theorem dX6_mayBeIn_130 : decode cX6_mayBeIn 130 = .ok (.if_icmp .lt 15, 3) := by decide +kernel
theorem dX6_mayBeIn_133 : decode cX6_mayBeIn 133 = .ok (.aload_n 0, 1) := by decide +kernel
theorem dX6_mayBeIn_134 : decode cX6_mayBeIn 134 = .ok (.iload_n 1, 1) := by decide +kernel
theorem dX6_mayBeIn_135 : decode cX6_mayBeIn 135 = .ok (.iload_n 2, 1) := by decide +kernel
theorem dX6_mayBeIn_136 : decode cX6_mayBeIn 136 = .ok (.invokestatic 283, 3) := by decide +kernel
theorem dX6_mayBeIn_139 : decode cX6_mayBeIn 139 = .ok (.invokevirtual 324, 3) := by decide +kernel
theorem dX6_mayBeIn_142 : decode cX6_mayBeIn 142 = .ok (.ifCond .eq 7, 3) := by decide +kernel
theorem dX6_mayBeIn_145 : decode cX6_mayBeIn 145 = .ok (.iconst 1, 1) := by decide +kernel
theorem dX6_mayBeIn_146 : decode cX6_mayBeIn 146 = .ok (.goto 4, 3) := by decide +kernel
theorem dX6_mayBeIn_149 : decode cX6_mayBeIn 149 = .ok (.iconst 0, 1) := by decide +kernel
theorem dX6_mayBeIn_150 : decode cX6_mayBeIn 150 = .ok (.ireturn, 1) := by decide +kernel
def pX6_mayBeIn_b145   (v : St) : Option (Int32 × St) := some (1, v)
def pX6_mayBeIn_b99  (x1 : Int32) (x2 : Int32) (v : St) : Option (Int32 × St) := if (rg v 3 x1) = 1 then (bnd (pX4_hasPlug x2 v) (fun r16 w17 => if r16 = 0 ∨ r16 = 1 then some (r16, w17) else none)) else (if (rg v 3 x1) < 2 then (pX6_mayBeIn_b145 v) else (bnd (pX6_isApartIn x1 (pX6_bayOf x2) v) (fun r12 w13 => if r12 = 0 then (some (0, w13)) else (pX6_mayBeIn_b145 w13))))
def pX6_mayBeIn_b72   (v : St) : Option (Int32 × St) := some (0, v)
def pX6_mayBeIn_b21  (x1 : Int32) (x2 : Int32) (v : St) : Option (Int32 × St) := bnd (pX4_isOpen (pX6_bayOf x2) v) (fun r5 w6 => if (pX6_isUnderHatch x2) = r5 then (if (pX6_restsOnBox x2) = 0 then (pX6_mayBeIn_b99 x1 x2 w6) else (bnd (pX4_boxIn (x2 - 1) w6) (fun r19 w20 => if r19 = ((-1)) then (pX6_mayBeIn_b72 w20) else (if r19 = x1 then (pX6_mayBeIn_b72 w20) else (bnd (pX0_mayCarry r19 (rg w20 0 x1) w20) (fun r24 w25 => if r24 = 0 then (some (0, w25)) else (pX6_mayBeIn_b99 x1 x2 w25))))))) else (some (0, w6)))
def pX6_mayBeIn (a1 : Int32) (a2 : Int32) (u : St) : Option (Int32 × St) := bnd (pX4_boxIn a2 u) (fun r1 w2 => if r1 = ((-1)) then (pX6_mayBeIn_b21 a1 a2 w2) else (if r1 = a1 then (pX6_mayBeIn_b21 a1 a2 w2) else (some (0, w2))))
set_option maxHeartbeats 4000000 in
set_option maxRecDepth 20000 in
theorem kX6_mayBeIn {l : Launch} {D : va_G} {Y : Nat → ClassId} {q : Nat → Nat} {a1 a2 : Int32} {u u1 : St} {r : Int32} (hX : pX6_mayBeIn a1 a2 u = some (r, u1)) : CMi l yX6_mayBeIn cX6_mayBeIn 5 (some .boolean) 2 47 D Y (wC Y q u) (wC Y q u1) [.ref (q 0), .int a1, .int a2] r := by
  refine cm_ofi (by decide) (Nat.le_of_ble_eq_true rfl) rfl (fun p e s m args below meth c A F hr hlk => ?_)
  show GW p l e { frames := 2, cells := 0, slots := 0, locals := 47 } s m args below meth c D A 5 0 0 (MQ below (QI D (wC Y q u1) r A) args s 0 0 A) (wC Y q u) 0 [(0, .ref (q 0)), (1, .int a1), (2, .int a2)] []
  have b145 : ∀   (v : St), pX6_mayBeIn_b145  v = some (r, u1) → GW p l e { frames := 2, cells := 0, slots := 0, locals := 47 } s m args below meth c D A 5 0 0 (MQ below (QI D (wC Y q u1) r A) args s 0 0 A) (wC Y q v) 145 [] [] := by
    intro  v hX
    have hX : (some (1, v)) = some (r, u1) := hX
    refine g_iconst (v := 1) F dX6_mayBeIn_145 (by decide) ?_
    refine g_goto (tgt := 150) F dX6_mayBeIn_146 (by decide) ?_
    exact g_retC (wf := wC Y q) F hr rfl hlk dX6_mayBeIn_150 hX
  have b99 : ∀  (x1 : Int32) (x2 : Int32) (v : St), pX6_mayBeIn_b99  x1 x2 v = some (r, u1) → GW p l e { frames := 2, cells := 0, slots := 0, locals := 47 } s m args below meth c D A 5 0 0 (MQ below (QI D (wC Y q u1) r A) args s 0 0 A) (wC Y q v) 99 [(0, .ref (q 0)), (1, .int x1), (2, .int x2)] [] := by
    intro  x1 x2 v hX
    have hX : (if (rg v 3 x1) = 1 then (bnd (pX4_hasPlug x2 v) (fun r16 w17 => if r16 = 0 ∨ r16 = 1 then some (r16, w17) else none)) else (if (rg v 3 x1) < 2 then (pX6_mayBeIn_b145 v) else (bnd (pX6_isApartIn x1 (pX6_bayOf x2) v) (fun r12 w13 => if r12 = 0 then (some (0, w13)) else (pX6_mayBeIn_b145 w13))))) = some (r, u1) := hX
    refine g_aload_n F dX6_mayBeIn_99 0 rfl rfl ?_
    refine G_X6_10 F dX6_mayBeIn_100 ?_
    refine G_X6_78 F dX6_mayBeIn_103 ?_
    refine g_iload_n F dX6_mayBeIn_106 1 rfl rfl ?_
    refine C_rget F 3 (by decide) ml_X6_81 ⟨Nat.le_of_ble_eq_true rfl, Nat.le_of_ble_eq_true rfl⟩ (Nat.le_of_ble_eq_true rfl) dX6_mayBeIn_107 ?_
    refine g_istore (lv' := [(4, .int (rg v 3 x1)), (0, .ref (q 0)), (1, .int x1), (2, .int x2)]) F dX6_mayBeIn_110 (by decide) rfl ?_
    refine g_iload F dX6_mayBeIn_112 0 rfl ?_
    refine g_iconst (v := 1) F dX6_mayBeIn_114 (by decide) ?_
    refine g_icmp_ne (tgt := 127) F dX6_mayBeIn_115 (by decide) (fun c10 => ?_) (fun c10 => ?_)
    · have hX := if_f hX c10
      refine g_iload F dX6_mayBeIn_127 0 rfl ?_
      refine g_iconst (v := 2) F dX6_mayBeIn_129 (by decide) ?_
      refine g_icmp_lt (tgt := 145) F dX6_mayBeIn_130 (by decide) (fun c11 => ?_) (fun c11 => ?_)
      · have hX := if_t hX c11
        refine g_sub [] rfl ?_
        exact b145 v hX
      · have hX := if_f hX c11
        refine g_aload_n F dX6_mayBeIn_133 1 rfl rfl ?_
        refine g_iload_n F dX6_mayBeIn_134 2 rfl rfl ?_
        refine g_iload_n F dX6_mayBeIn_135 3 rfl rfl ?_
        refine callX6_bayOf F ml_X6_283 ⟨Nat.le_of_ble_eq_true rfl, Nat.le_of_ble_eq_true rfl⟩ (Nat.le_of_ble_eq_true rfl) dX6_mayBeIn_136 ?_
        obtain ⟨r12, w13, hc14, hX⟩ := bnd_s hX
        refine callX6_isApartIn F hc14 ml_X6_324 ⟨Nat.le_of_ble_eq_true rfl, Nat.le_of_ble_eq_true rfl⟩ (Nat.le_of_ble_eq_true rfl) dX6_mayBeIn_139 ?_
        refine g_if_eq (tgt := 149) F dX6_mayBeIn_142 (by decide) (fun c15 => ?_) (fun c15 => ?_)
        · have hX := if_t hX c15
          refine g_iconst (v := 0) F dX6_mayBeIn_149 (by decide) ?_
          exact g_retC (wf := wC Y q) F hr rfl hlk dX6_mayBeIn_150 hX
        · have hX := if_f hX c15
          refine g_sub [] rfl ?_
          exact b145 w13 hX
    · have hX := if_t hX c10
      refine g_aload_n F dX6_mayBeIn_118 1 rfl rfl ?_
      refine G_X6_26 F dX6_mayBeIn_119 ?_
      refine g_iload_n F dX6_mayBeIn_122 3 rfl rfl ?_
      obtain ⟨r16, w17, hc18, hX⟩ := bnd_s hX
      refine callX4_hasPlug F hc18 ml_X6_93 ⟨Nat.le_of_ble_eq_true rfl, Nat.le_of_ble_eq_true rfl⟩ (Nat.le_of_ble_eq_true rfl) dX6_mayBeIn_123 ?_
      exact g_retCb (wf := wC Y q) F hr hlk dX6_mayBeIn_126 hX
  have b72 : ∀   (v : St), pX6_mayBeIn_b72  v = some (r, u1) → GW p l e { frames := 2, cells := 0, slots := 0, locals := 47 } s m args below meth c D A 5 0 0 (MQ below (QI D (wC Y q u1) r A) args s 0 0 A) (wC Y q v) 72 [] [] := by
    intro  v hX
    have hX : (some (0, v)) = some (r, u1) := hX
    refine g_iconst (v := 0) F dX6_mayBeIn_72 (by decide) ?_
    exact g_retC (wf := wC Y q) F hr rfl hlk dX6_mayBeIn_73 hX
  have b21 : ∀  (x1 : Int32) (x2 : Int32) (v : St), pX6_mayBeIn_b21  x1 x2 v = some (r, u1) → GW p l e { frames := 2, cells := 0, slots := 0, locals := 47 } s m args below meth c D A 5 0 0 (MQ below (QI D (wC Y q u1) r A) args s 0 0 A) (wC Y q v) 21 [(0, .ref (q 0)), (1, .int x1), (2, .int x2)] [] := by
    intro  x1 x2 v hX
    have hX : (bnd (pX4_isOpen (pX6_bayOf x2) v) (fun r5 w6 => if (pX6_isUnderHatch x2) = r5 then (if (pX6_restsOnBox x2) = 0 then (pX6_mayBeIn_b99 x1 x2 w6) else (bnd (pX4_boxIn (x2 - 1) w6) (fun r19 w20 => if r19 = ((-1)) then (pX6_mayBeIn_b72 w20) else (if r19 = x1 then (pX6_mayBeIn_b72 w20) else (bnd (pX0_mayCarry r19 (rg w20 0 x1) w20) (fun r24 w25 => if r24 = 0 then (some (0, w25)) else (pX6_mayBeIn_b99 x1 x2 w25))))))) else (some (0, w6)))) = some (r, u1) := hX
    refine g_iload_n F dX6_mayBeIn_21 2 rfl rfl ?_
    refine callX6_isUnderHatch F ml_X6_297 ⟨Nat.le_of_ble_eq_true rfl, Nat.le_of_ble_eq_true rfl⟩ (Nat.le_of_ble_eq_true rfl) dX6_mayBeIn_22 ?_
    refine g_aload_n F dX6_mayBeIn_25 0 rfl rfl ?_
    refine G_X6_26 F dX6_mayBeIn_26 ?_
    refine g_iload_n F dX6_mayBeIn_29 2 rfl rfl ?_
    refine callX6_bayOf F ml_X6_283 ⟨Nat.le_of_ble_eq_true rfl, Nat.le_of_ble_eq_true rfl⟩ (Nat.le_of_ble_eq_true rfl) dX6_mayBeIn_30 ?_
    obtain ⟨r5, w6, hc7, hX⟩ := bnd_s hX
    refine callX4_isOpen F hc7 ml_X6_271 ⟨Nat.le_of_ble_eq_true rfl, Nat.le_of_ble_eq_true rfl⟩ (Nat.le_of_ble_eq_true rfl) dX6_mayBeIn_33 ?_
    refine g_icmp_eq (tgt := 41) F dX6_mayBeIn_36 (by decide) (fun c8 => ?_) (fun c8 => ?_)
    · have hX := if_t hX c8
      refine g_iload_n F dX6_mayBeIn_41 2 rfl rfl ?_
      refine callX6_restsOnBox F ml_X6_321 ⟨Nat.le_of_ble_eq_true rfl, Nat.le_of_ble_eq_true rfl⟩ (Nat.le_of_ble_eq_true rfl) dX6_mayBeIn_42 ?_
      refine g_if_eq (tgt := 99) F dX6_mayBeIn_45 (by decide) (fun c9 => ?_) (fun c9 => ?_)
      · have hX := if_t hX c9
        exact b99 x1 x2 w6 hX
      · have hX := if_f hX c9
        refine g_aload_n F dX6_mayBeIn_48 0 rfl rfl ?_
        refine G_X6_26 F dX6_mayBeIn_49 ?_
        refine g_iload_n F dX6_mayBeIn_52 2 rfl rfl ?_
        refine g_iconst (v := 1) F dX6_mayBeIn_53 (by decide) ?_
        refine g_isub F dX6_mayBeIn_54 ?_
        obtain ⟨r19, w20, hc21, hX⟩ := bnd_s hX
        refine callX4_boxIn F hc21 ml_X6_74 ⟨Nat.le_of_ble_eq_true rfl, Nat.le_of_ble_eq_true rfl⟩ (Nat.le_of_ble_eq_true rfl) dX6_mayBeIn_55 ?_
        refine g_istore (lv' := [(4, .int r19), (0, .ref (q 0)), (1, .int x1), (2, .int x2)]) F dX6_mayBeIn_58 (by decide) rfl ?_
        refine g_iload F dX6_mayBeIn_60 0 rfl ?_
        refine g_iconst (v := (-1)) F dX6_mayBeIn_62 (by decide) ?_
        refine g_icmp_eq (tgt := 72) F dX6_mayBeIn_63 (by decide) (fun c22 => ?_) (fun c22 => ?_)
        · have hX := if_t hX c22
          refine g_sub [] rfl ?_
          exact b72 w20 hX
        · have hX := if_f hX c22
          refine g_iload F dX6_mayBeIn_66 0 rfl ?_
          refine g_iload_n F dX6_mayBeIn_68 2 rfl rfl ?_
          refine g_icmp_ne (tgt := 74) F dX6_mayBeIn_69 (by decide) (fun c23 => ?_) (fun c23 => ?_)
          · have hX := if_f hX c23
            refine g_aload_n F dX6_mayBeIn_74 1 rfl rfl ?_
            refine G_X6_10 F dX6_mayBeIn_75 ?_
            refine g_iload F dX6_mayBeIn_78 0 rfl ?_
            refine g_aload_n F dX6_mayBeIn_80 1 rfl rfl ?_
            refine G_X6_10 F dX6_mayBeIn_81 ?_
            refine G_X6_258 F dX6_mayBeIn_84 ?_
            refine g_iload_n F dX6_mayBeIn_87 2 rfl rfl ?_
            refine C_rget F 0 (by decide) ml_X6_81 ⟨Nat.le_of_ble_eq_true rfl, Nat.le_of_ble_eq_true rfl⟩ (Nat.le_of_ble_eq_true rfl) dX6_mayBeIn_88 ?_
            obtain ⟨r24, w25, hc26, hX⟩ := bnd_s hX
            refine callX0_mayCarry F hc26 ml_X6_318 ⟨Nat.le_of_ble_eq_true rfl, Nat.le_of_ble_eq_true rfl⟩ (Nat.le_of_ble_eq_true rfl) dX6_mayBeIn_91 ?_
            refine g_if_ne (tgt := 99) F dX6_mayBeIn_94 (by decide) (fun c27 => ?_) (fun c27 => ?_)
            · have hX := if_f hX c27
              refine g_sub [1, 2, 3] rfl ?_
              exact b99 x1 x2 w25 hX
            · have hX := if_t hX c27
              refine g_iconst (v := 0) F dX6_mayBeIn_97 (by decide) ?_
              exact g_retC (wf := wC Y q) F hr rfl hlk dX6_mayBeIn_98 hX
          · have hX := if_t hX c23
            refine g_sub [] rfl ?_
            exact b72 w20 hX
    · have hX := if_f hX c8
      refine g_iconst (v := 0) F dX6_mayBeIn_39 (by decide) ?_
      exact g_retC (wf := wC Y q) F hr rfl hlk dX6_mayBeIn_40 hX
  have hX : (bnd (pX4_boxIn a2 u) (fun r1 w2 => if r1 = ((-1)) then (pX6_mayBeIn_b21 a1 a2 w2) else (if r1 = a1 then (pX6_mayBeIn_b21 a1 a2 w2) else (some (0, w2))))) = some (r, u1) := hX
  refine g_aload_n F dX6_mayBeIn_0 0 rfl rfl ?_
  refine G_X6_26 F dX6_mayBeIn_1 ?_
  refine g_iload_n F dX6_mayBeIn_4 2 rfl rfl ?_
  obtain ⟨r1, w2, hc3, hX⟩ := bnd_s hX
  refine callX4_boxIn F hc3 ml_X6_74 ⟨Nat.le_of_ble_eq_true rfl, Nat.le_of_ble_eq_true rfl⟩ (Nat.le_of_ble_eq_true rfl) dX6_mayBeIn_5 ?_
  refine g_istore_n (lv' := [(3, .int r1), (0, .ref (q 0)), (1, .int a1), (2, .int a2)]) F dX6_mayBeIn_8 rfl (by decide) rfl ?_
  refine g_iload_n F dX6_mayBeIn_9 0 rfl rfl ?_
  refine g_iconst (v := (-1)) F dX6_mayBeIn_10 (by decide) ?_
  refine g_icmp_eq (tgt := 21) F dX6_mayBeIn_11 (by decide) (fun c4 => ?_) (fun c4 => ?_)
  · have hX := if_t hX c4
    refine g_sub [1, 2, 3] rfl ?_
    exact b21 a1 a2 w2 hX
  · have hX := if_f hX c4
    refine g_iload_n F dX6_mayBeIn_14 0 rfl rfl ?_
    refine g_iload_n F dX6_mayBeIn_15 2 rfl rfl ?_
    refine g_icmp_eq (tgt := 21) F dX6_mayBeIn_16 (by decide) (fun c28 => ?_) (fun c28 => ?_)
    · have hX := if_t hX c28
      refine g_sub [1, 2, 3] rfl ?_
      exact b21 a1 a2 w2 hX
    · have hX := if_f hX c28
      refine g_iconst (v := 0) F dX6_mayBeIn_19 (by decide) ?_
      exact g_retC (wf := wC Y q) F hr rfl hlk dX6_mayBeIn_20 hX
theorem callX6_mayBeIn {p : Program} {l : Launch} {e : Env} {R : Room} {s : State} {m : MethodId} {args : Array Value} {below : List Frame} {meth : Method} {c : Code} {D : va_G} {Y : Nat → ClassId} {A : Nat → Prop} {cc : ByteArray} {nL : Nat} {own : String} {Q : State → Prop} {pc : Nat} {lv : List (Nat × Value)} {rest : List Value} {q : Nat → Nat} {a1 a2 : Int32} {u u1 : St} {r : Int32} (F : Fx p s m args c D Y A cc nL own) (hX : pX6_mayBeIn a1 a2 u = some (r, u1)) {index : Nat} (hml : Cond.methodLink own index yX6_mayBeIn ∈ TBL) (hR : 2 + 1 ≤ R.frames ∧ 8 + (5 + 11) + 47 ≤ R.locals) (hcat : (rest.map fun v => v.category).sum ≤ 8) (hd : decode cc pc = .ok (.invokevirtual index, 3)) (kk : GW p l e R s m args below meth c D A nL 0 0 Q (wC Y q u1) (pc + 3) lv (.int r :: rest)) : GW p l e R s m args below meth c D A nL 0 0 Q (wC Y q u) pc lv (.int a2 :: .int a1 :: .ref (q 0) :: rest) := g_callVi (ws := wC Y q u) (n := 2) (q0 := 0) (As := [.int a1, .int a2]) F [] [] (kX6_mayBeIn hX) (List.append_nil _).symm (List.append_nil _) (by unfold mOK; decide +kernel) rfl rfl cd_yX6_mayBeIn hml im_yX6_mayBeIn se_yX6_mayBeIn in_X6 rfl rfl hR ⟨Nat.zero_le _, Nat.zero_le _⟩ rfl hcat hd kk
theorem dX6_boxesOn_0 : decode cX6_boxesOn 0 = .ok (.aload_n 0, 1) := by decide +kernel
theorem dX6_boxesOn_1 : decode cX6_boxesOn 1 = .ok (.getfield 10, 3) := by decide +kernel
theorem dX6_boxesOn_4 : decode cX6_boxesOn 4 = .ok (.getfield 261, 3) := by decide +kernel
theorem dX6_boxesOn_7 : decode cX6_boxesOn 7 = .ok (.iload_n 1, 1) := by decide +kernel
theorem dX6_boxesOn_8 : decode cX6_boxesOn 8 = .ok (.invokevirtual 81, 3) := by decide +kernel
theorem dX6_boxesOn_11 : decode cX6_boxesOn 11 = .ok (.istore_n 2, 1) := by decide +kernel
theorem dX6_boxesOn_12 : decode cX6_boxesOn 12 = .ok (.aload_n 0, 1) := by decide +kernel
theorem dX6_boxesOn_13 : decode cX6_boxesOn 13 = .ok (.getfield 10, 3) := by decide +kernel
theorem dX6_boxesOn_16 : decode cX6_boxesOn 16 = .ok (.getfield 210, 3) := by decide +kernel
theorem dX6_boxesOn_19 : decode cX6_boxesOn 19 = .ok (.iload_n 1, 1) := by decide +kernel
theorem dX6_boxesOn_20 : decode cX6_boxesOn 20 = .ok (.invokevirtual 81, 3) := by decide +kernel
theorem dX6_boxesOn_23 : decode cX6_boxesOn 23 = .ok (.lookupswitch 53 #[(0, 25), (1, 35)], 25) := by decide +kernel
theorem dX6_boxesOn_48 : decode cX6_boxesOn 48 = .ok (.aload_n 0, 1) := by decide +kernel
theorem dX6_boxesOn_49 : decode cX6_boxesOn 49 = .ok (.getfield 19, 3) := by decide +kernel
theorem dX6_boxesOn_52 : decode cX6_boxesOn 52 = .ok (.iload_n 1, 1) := by decide +kernel
theorem dX6_boxesOn_53 : decode cX6_boxesOn 53 = .ok (.iload_n 2, 1) := by decide +kernel
theorem dX6_boxesOn_54 : decode cX6_boxesOn 54 = .ok (.invokevirtual 327, 3) := by decide +kernel
theorem dX6_boxesOn_57 : decode cX6_boxesOn 57 = .ok (.ireturn, 1) := by decide +kernel
theorem dX6_boxesOn_58 : decode cX6_boxesOn 58 = .ok (.aload_n 0, 1) := by decide +kernel
theorem dX6_boxesOn_59 : decode cX6_boxesOn 59 = .ok (.getfield 26, 3) := by decide +kernel
theorem dX6_boxesOn_62 : decode cX6_boxesOn 62 = .ok (.iload_n 2, 1) := by decide +kernel
theorem dX6_boxesOn_63 : decode cX6_boxesOn 63 = .ok (.invokevirtual 330, 3) := by decide +kernel
theorem dX6_boxesOn_66 : decode cX6_boxesOn 66 = .ok (.iconst (-1), 1) := by decide +kernel
theorem dX6_boxesOn_67 : decode cX6_boxesOn 67 = .ok (.if_icmp .ne 7, 3) := by decide +kernel
theorem dX6_boxesOn_70 : decode cX6_boxesOn 70 = .ok (.iconst 0, 1) := by decide +kernel
theorem dX6_boxesOn_71 : decode cX6_boxesOn 71 = .ok (.goto 4, 3) := by decide +kernel
theorem dX6_boxesOn_74 : decode cX6_boxesOn 74 = .ok (.iconst 1, 1) := by decide +kernel
theorem dX6_boxesOn_75 : decode cX6_boxesOn 75 = .ok (.ireturn, 1) := by decide +kernel
theorem dX6_boxesOn_76 : decode cX6_boxesOn 76 = .ok (.iconst 0, 1) := by decide +kernel
theorem dX6_boxesOn_77 : decode cX6_boxesOn 77 = .ok (.ireturn, 1) := by decide +kernel
def pX6_boxesOn (a1 : Int32) (u : St) : Option (Int32 × St) := if rg u 5 a1 = 0 then (bnd (pX5_boxesOver a1 (rg u 6 a1) u) (fun r1 w2 => some (r1, w2))) else (if rg u 5 a1 = 1 then (bnd (pX4_boxOver (rg u 6 a1) u) (fun r5 w6 => if r5 = ((-1)) then (some (0, w6)) else (some (1, w6)))) else (some (0, u)))
set_option maxHeartbeats 4000000 in
set_option maxRecDepth 20000 in
theorem kX6_boxesOn {l : Launch} {D : va_G} {Y : Nat → ClassId} {q : Nat → Nat} {a1 : Int32} {u u1 : St} {r : Int32} (hX : pX6_boxesOn a1 u = some (r, u1)) : CMi l yX6_boxesOn cX6_boxesOn 3 (some .int) 3 67 D Y (wC Y q u) (wC Y q u1) [.ref (q 0), .int a1] r := by
  refine cm_ofi (by decide) (Nat.le_of_ble_eq_true rfl) rfl (fun p e s m args below meth c A F hr hlk => ?_)
  show GW p l e { frames := 3, cells := 0, slots := 0, locals := 67 } s m args below meth c D A 3 0 0 (MQ below (QI D (wC Y q u1) r A) args s 0 0 A) (wC Y q u) 0 [(0, .ref (q 0)), (1, .int a1)] []
  have hX : (if rg u 5 a1 = 0 then (bnd (pX5_boxesOver a1 (rg u 6 a1) u) (fun r1 w2 => some (r1, w2))) else (if rg u 5 a1 = 1 then (bnd (pX4_boxOver (rg u 6 a1) u) (fun r5 w6 => if r5 = ((-1)) then (some (0, w6)) else (some (1, w6)))) else (some (0, u)))) = some (r, u1) := hX
  refine g_aload_n F dX6_boxesOn_0 0 rfl rfl ?_
  refine G_X6_10 F dX6_boxesOn_1 ?_
  refine G_X6_261 F dX6_boxesOn_4 ?_
  refine g_iload_n F dX6_boxesOn_7 1 rfl rfl ?_
  refine C_rget F 6 (by decide) ml_X6_81 ⟨Nat.le_of_ble_eq_true rfl, Nat.le_of_ble_eq_true rfl⟩ (Nat.le_of_ble_eq_true rfl) dX6_boxesOn_8 ?_
  refine g_istore_n (lv' := [(2, .int (rg u 6 a1)), (0, .ref (q 0)), (1, .int a1)]) F dX6_boxesOn_11 rfl (by decide) rfl ?_
  refine g_aload_n F dX6_boxesOn_12 1 rfl rfl ?_
  refine G_X6_10 F dX6_boxesOn_13 ?_
  refine G_X6_210 F dX6_boxesOn_16 ?_
  refine g_iload_n F dX6_boxesOn_19 2 rfl rfl ?_
  refine C_rget F 5 (by decide) ml_X6_81 ⟨Nat.le_of_ble_eq_true rfl, Nat.le_of_ble_eq_true rfl⟩ (Nat.le_of_ble_eq_true rfl) dX6_boxesOn_20 ?_
  by_cases c4 : rg u 5 a1 = 0
  · have hX := if_t hX c4
    refine g_lookup (tgt := 48) F dX6_boxesOn_23 (by decide) (off := 25) (by rw [c4]; decide) (by decide) ?_
    refine g_aload_n F dX6_boxesOn_48 1 rfl rfl ?_
    refine G_X6_19 F dX6_boxesOn_49 ?_
    refine g_iload_n F dX6_boxesOn_52 2 rfl rfl ?_
    refine g_iload_n F dX6_boxesOn_53 0 rfl rfl ?_
    obtain ⟨r1, w2, hc3, hX⟩ := bnd_s hX
    refine callX5_boxesOver F hc3 ml_X6_327 ⟨Nat.le_of_ble_eq_true rfl, Nat.le_of_ble_eq_true rfl⟩ (Nat.le_of_ble_eq_true rfl) dX6_boxesOn_54 ?_
    exact g_retC (wf := wC Y q) F hr rfl hlk dX6_boxesOn_57 hX
  have hX := if_f hX c4
  by_cases c9 : rg u 5 a1 = 1
  · have hX := if_t hX c9
    refine g_lookup (tgt := 58) F dX6_boxesOn_23 (by decide) (off := 35) (by rw [c9]; decide) (by decide) ?_
    refine g_aload_n F dX6_boxesOn_58 1 rfl rfl ?_
    refine G_X6_26 F dX6_boxesOn_59 ?_
    refine g_iload_n F dX6_boxesOn_62 0 rfl rfl ?_
    obtain ⟨r5, w6, hc7, hX⟩ := bnd_s hX
    refine callX4_boxOver F hc7 ml_X6_330 ⟨Nat.le_of_ble_eq_true rfl, Nat.le_of_ble_eq_true rfl⟩ (Nat.le_of_ble_eq_true rfl) dX6_boxesOn_63 ?_
    refine g_iconst (v := (-1)) F dX6_boxesOn_66 (by decide) ?_
    refine g_icmp_ne (tgt := 74) F dX6_boxesOn_67 (by decide) (fun c8 => ?_) (fun c8 => ?_)
    · have hX := if_f hX c8
      refine g_iconst (v := 1) F dX6_boxesOn_74 (by decide) ?_
      exact g_retC (wf := wC Y q) F hr rfl hlk dX6_boxesOn_75 hX
    · have hX := if_t hX c8
      refine g_iconst (v := 0) F dX6_boxesOn_70 (by decide) ?_
      refine g_goto (tgt := 75) F dX6_boxesOn_71 (by decide) ?_
      exact g_retC (wf := wC Y q) F hr rfl hlk dX6_boxesOn_75 hX
  have hX := if_f hX c9
  refine g_lookup (tgt := 76) F dX6_boxesOn_23 (by decide) (off := 53) (look_out2 c4 c9) (by decide) ?_
  refine g_iconst (v := 0) F dX6_boxesOn_76 (by decide) ?_
  exact g_retC (wf := wC Y q) F hr rfl hlk dX6_boxesOn_77 hX
theorem callX6_boxesOn {p : Program} {l : Launch} {e : Env} {R : Room} {s : State} {m : MethodId} {args : Array Value} {below : List Frame} {meth : Method} {c : Code} {D : va_G} {Y : Nat → ClassId} {A : Nat → Prop} {cc : ByteArray} {nL : Nat} {own : String} {Q : State → Prop} {pc : Nat} {lv : List (Nat × Value)} {rest : List Value} {q : Nat → Nat} {a1 : Int32} {u u1 : St} {r : Int32} (F : Fx p s m args c D Y A cc nL own) (hX : pX6_boxesOn a1 u = some (r, u1)) {index : Nat} (hml : Cond.methodLink own index yX6_boxesOn ∈ TBL) (hR : 3 + 1 ≤ R.frames ∧ 8 + (3 + 11) + 67 ≤ R.locals) (hcat : (rest.map fun v => v.category).sum ≤ 8) (hd : decode cc pc = .ok (.invokevirtual index, 3)) (kk : GW p l e R s m args below meth c D A nL 0 0 Q (wC Y q u1) (pc + 3) lv (.int r :: rest)) : GW p l e R s m args below meth c D A nL 0 0 Q (wC Y q u) pc lv (.int a1 :: .ref (q 0) :: rest) := g_callVi (ws := wC Y q u) (n := 1) (q0 := 0) (As := [.int a1]) F [] [] (kX6_boxesOn hX) (List.append_nil _).symm (List.append_nil _) (by unfold mOK; decide +kernel) rfl rfl cd_yX6_boxesOn hml im_yX6_boxesOn se_yX6_boxesOn in_X6 rfl rfl hR ⟨Nat.zero_le _, Nat.zero_le _⟩ rfl hcat hd kk
theorem dX6_putInYard_0 : decode cX6_putInYard 0 = .ok (.aload_n 0, 1) := by decide +kernel
theorem dX6_putInYard_1 : decode cX6_putInYard 1 = .ok (.getfield 19, 3) := by decide +kernel
theorem dX6_putInYard_4 : decode cX6_putInYard 4 = .ok (.iload_n 1, 1) := by decide +kernel
theorem dX6_putInYard_5 : decode cX6_putInYard 5 = .ok (.iload_n 2, 1) := by decide +kernel
theorem dX6_putInYard_6 : decode cX6_putInYard 6 = .ok (.invokevirtual 333, 3) := by decide +kernel
theorem dX6_putInYard_9 : decode cX6_putInYard 9 = .ok (.aload_n 0, 1) := by decide +kernel
theorem dX6_putInYard_10 : decode cX6_putInYard 10 = .ok (.getfield 10, 3) := by decide +kernel
theorem dX6_putInYard_13 : decode cX6_putInYard 13 = .ok (.iload_n 1, 1) := by decide +kernel
theorem dX6_putInYard_14 : decode cX6_putInYard 14 = .ok (.iconst 0, 1) := by decide +kernel
theorem dX6_putInYard_15 : decode cX6_putInYard 15 = .ok (.iload_n 2, 1) := by decide +kernel
theorem dX6_putInYard_16 : decode cX6_putInYard 16 = .ok (.invokevirtual 250, 3) := by decide +kernel
theorem dX6_putInYard_19 : decode cX6_putInYard 19 = .ok (.return_, 1) := by decide +kernel
def pX6_putInYard (a1 : Int32) (a2 : Int32) (u : St) : Option (Int32 × St) := bnd (pX5_put a1 a2 u) (fun r1 w2 => bnd (pX0_move a1 0 a2 w2) (fun r4 w5 => some (0, w5)))
set_option maxHeartbeats 4000000 in
set_option maxRecDepth 20000 in
theorem kX6_putInYard {l : Launch} {D : va_G} {Y : Nat → ClassId} {q : Nat → Nat} {a1 a2 : Int32} {u u1 : St} {r : Int32} (hX : pX6_putInYard a1 a2 u = some (r, u1)) : CMv l yX6_putInYard cX6_putInYard 3 2 45 D Y (wC Y q u) (wC Y q u1) [.ref (q 0), .int a1, .int a2] := by
  refine cm_ofv (by decide) (Nat.le_of_ble_eq_true rfl) rfl (fun p e s m args below meth c A F hr hlk => ?_)
  show GW p l e { frames := 2, cells := 0, slots := 0, locals := 45 } s m args below meth c D A 3 0 0 (MQ below (QV D (wC Y q u1) A) args s 0 0 A) (wC Y q u) 0 [(0, .ref (q 0)), (1, .int a1), (2, .int a2)] []
  have hX : (bnd (pX5_put a1 a2 u) (fun r1 w2 => bnd (pX0_move a1 0 a2 w2) (fun r4 w5 => some (0, w5)))) = some (r, u1) := hX
  refine g_aload_n F dX6_putInYard_0 0 rfl rfl ?_
  refine G_X6_19 F dX6_putInYard_1 ?_
  refine g_iload_n F dX6_putInYard_4 1 rfl rfl ?_
  refine g_iload_n F dX6_putInYard_5 2 rfl rfl ?_
  obtain ⟨r1, w2, hc3, hX⟩ := bnd_s hX
  refine callX5_put F hc3 ml_X6_333 ⟨Nat.le_of_ble_eq_true rfl, Nat.le_of_ble_eq_true rfl⟩ (Nat.le_of_ble_eq_true rfl) dX6_putInYard_6 ?_
  refine g_aload_n F dX6_putInYard_9 0 rfl rfl ?_
  refine G_X6_10 F dX6_putInYard_10 ?_
  refine g_iload_n F dX6_putInYard_13 1 rfl rfl ?_
  refine g_iconst (v := 0) F dX6_putInYard_14 (by decide) ?_
  refine g_iload_n F dX6_putInYard_15 2 rfl rfl ?_
  obtain ⟨r4, w5, hc6, hX⟩ := bnd_s hX
  refine callX0_move F hc6 ml_X6_250 ⟨Nat.le_of_ble_eq_true rfl, Nat.le_of_ble_eq_true rfl⟩ (Nat.le_of_ble_eq_true rfl) dX6_putInYard_16 ?_
  exact g_retV (wf := wC Y q) F hr hlk dX6_putInYard_19 hX
theorem callX6_putInYard {p : Program} {l : Launch} {e : Env} {R : Room} {s : State} {m : MethodId} {args : Array Value} {below : List Frame} {meth : Method} {c : Code} {D : va_G} {Y : Nat → ClassId} {A : Nat → Prop} {cc : ByteArray} {nL : Nat} {own : String} {Q : State → Prop} {pc : Nat} {lv : List (Nat × Value)} {rest : List Value} {q : Nat → Nat} {a1 a2 : Int32} {u u1 : St} {r : Int32} (F : Fx p s m args c D Y A cc nL own) (hX : pX6_putInYard a1 a2 u = some (r, u1)) {index : Nat} (hml : Cond.methodLink own index yX6_putInYard ∈ TBL) (hR : 2 + 1 ≤ R.frames ∧ 8 + (3 + 11) + 45 ≤ R.locals) (hcat : (rest.map fun v => v.category).sum ≤ 8) (hd : decode cc pc = .ok (.invokevirtual index, 3)) (kk : GW p l e R s m args below meth c D A nL 0 0 Q (wC Y q u1) (pc + 3) lv (rest)) : GW p l e R s m args below meth c D A nL 0 0 Q (wC Y q u) pc lv (.int a2 :: .int a1 :: .ref (q 0) :: rest) := g_callVv (ws := wC Y q u) (n := 2) (q0 := 0) (As := [.int a1, .int a2]) F [] [] (kX6_putInYard hX) (List.append_nil _).symm (List.append_nil _) (by unfold mOK; decide +kernel) rfl rfl cd_yX6_putInYard hml im_yX6_putInYard se_yX6_putInYard in_X6 rfl rfl hR ⟨Nat.zero_le _, Nat.zero_le _⟩ rfl hcat hd kk
theorem dX6_putOnShip_0 : decode cX6_putOnShip 0 = .ok (.aload_n 0, 1) := by decide +kernel
theorem dX6_putOnShip_1 : decode cX6_putOnShip 1 = .ok (.getfield 26, 3) := by decide +kernel
theorem dX6_putOnShip_4 : decode cX6_putOnShip 4 = .ok (.iload_n 1, 1) := by decide +kernel
theorem dX6_putOnShip_5 : decode cX6_putOnShip 5 = .ok (.iload_n 2, 1) := by decide +kernel
theorem dX6_putOnShip_6 : decode cX6_putOnShip 6 = .ok (.aload_n 0, 1) := by decide +kernel
theorem dX6_putOnShip_7 : decode cX6_putOnShip 7 = .ok (.getfield 10, 3) := by decide +kernel
theorem dX6_putOnShip_10 : decode cX6_putOnShip 10 = .ok (.getfield 289, 3) := by decide +kernel
theorem dX6_putOnShip_13 : decode cX6_putOnShip 13 = .ok (.iload_n 1, 1) := by decide +kernel
theorem dX6_putOnShip_14 : decode cX6_putOnShip 14 = .ok (.invokevirtual 81, 3) := by decide +kernel
theorem dX6_putOnShip_17 : decode cX6_putOnShip 17 = .ok (.invokevirtual 336, 3) := by decide +kernel
theorem dX6_putOnShip_20 : decode cX6_putOnShip 20 = .ok (.aload_n 0, 1) := by decide +kernel
theorem dX6_putOnShip_21 : decode cX6_putOnShip 21 = .ok (.getfield 10, 3) := by decide +kernel
theorem dX6_putOnShip_24 : decode cX6_putOnShip 24 = .ok (.iload_n 1, 1) := by decide +kernel
theorem dX6_putOnShip_25 : decode cX6_putOnShip 25 = .ok (.iconst 1, 1) := by decide +kernel
theorem dX6_putOnShip_26 : decode cX6_putOnShip 26 = .ok (.iload_n 2, 1) := by decide +kernel
theorem dX6_putOnShip_27 : decode cX6_putOnShip 27 = .ok (.invokevirtual 250, 3) := by decide +kernel
theorem dX6_putOnShip_30 : decode cX6_putOnShip 30 = .ok (.return_, 1) := by decide +kernel
def pX6_putOnShip (a1 : Int32) (a2 : Int32) (u : St) : Option (Int32 × St) := bnd (pX4_put a1 a2 (rg u 1 a1) u) (fun r1 w2 => bnd (pX0_move a1 1 a2 w2) (fun r4 w5 => some (0, w5)))
set_option maxHeartbeats 4000000 in
set_option maxRecDepth 20000 in
theorem kX6_putOnShip {l : Launch} {D : va_G} {Y : Nat → ClassId} {q : Nat → Nat} {a1 a2 : Int32} {u u1 : St} {r : Int32} (hX : pX6_putOnShip a1 a2 u = some (r, u1)) : CMv l yX6_putOnShip cX6_putOnShip 3 3 67 D Y (wC Y q u) (wC Y q u1) [.ref (q 0), .int a1, .int a2] := by
  refine cm_ofv (by decide) (Nat.le_of_ble_eq_true rfl) rfl (fun p e s m args below meth c A F hr hlk => ?_)
  show GW p l e { frames := 3, cells := 0, slots := 0, locals := 67 } s m args below meth c D A 3 0 0 (MQ below (QV D (wC Y q u1) A) args s 0 0 A) (wC Y q u) 0 [(0, .ref (q 0)), (1, .int a1), (2, .int a2)] []
  have hX : (bnd (pX4_put a1 a2 (rg u 1 a1) u) (fun r1 w2 => bnd (pX0_move a1 1 a2 w2) (fun r4 w5 => some (0, w5)))) = some (r, u1) := hX
  refine g_aload_n F dX6_putOnShip_0 0 rfl rfl ?_
  refine G_X6_26 F dX6_putOnShip_1 ?_
  refine g_iload_n F dX6_putOnShip_4 1 rfl rfl ?_
  refine g_iload_n F dX6_putOnShip_5 2 rfl rfl ?_
  refine g_aload_n F dX6_putOnShip_6 0 rfl rfl ?_
  refine G_X6_10 F dX6_putOnShip_7 ?_
  refine G_X6_289 F dX6_putOnShip_10 ?_
  refine g_iload_n F dX6_putOnShip_13 1 rfl rfl ?_
  refine C_rget F 1 (by decide) ml_X6_81 ⟨Nat.le_of_ble_eq_true rfl, Nat.le_of_ble_eq_true rfl⟩ (Nat.le_of_ble_eq_true rfl) dX6_putOnShip_14 ?_
  obtain ⟨r1, w2, hc3, hX⟩ := bnd_s hX
  refine callX4_put F hc3 ml_X6_336 ⟨Nat.le_of_ble_eq_true rfl, Nat.le_of_ble_eq_true rfl⟩ (Nat.le_of_ble_eq_true rfl) dX6_putOnShip_17 ?_
  refine g_aload_n F dX6_putOnShip_20 0 rfl rfl ?_
  refine G_X6_10 F dX6_putOnShip_21 ?_
  refine g_iload_n F dX6_putOnShip_24 1 rfl rfl ?_
  refine g_iconst (v := 1) F dX6_putOnShip_25 (by decide) ?_
  refine g_iload_n F dX6_putOnShip_26 2 rfl rfl ?_
  obtain ⟨r4, w5, hc6, hX⟩ := bnd_s hX
  refine callX0_move F hc6 ml_X6_250 ⟨Nat.le_of_ble_eq_true rfl, Nat.le_of_ble_eq_true rfl⟩ (Nat.le_of_ble_eq_true rfl) dX6_putOnShip_27 ?_
  exact g_retV (wf := wC Y q) F hr hlk dX6_putOnShip_30 hX
theorem callX6_putOnShip {p : Program} {l : Launch} {e : Env} {R : Room} {s : State} {m : MethodId} {args : Array Value} {below : List Frame} {meth : Method} {c : Code} {D : va_G} {Y : Nat → ClassId} {A : Nat → Prop} {cc : ByteArray} {nL : Nat} {own : String} {Q : State → Prop} {pc : Nat} {lv : List (Nat × Value)} {rest : List Value} {q : Nat → Nat} {a1 a2 : Int32} {u u1 : St} {r : Int32} (F : Fx p s m args c D Y A cc nL own) (hX : pX6_putOnShip a1 a2 u = some (r, u1)) {index : Nat} (hml : Cond.methodLink own index yX6_putOnShip ∈ TBL) (hR : 3 + 1 ≤ R.frames ∧ 8 + (3 + 11) + 67 ≤ R.locals) (hcat : (rest.map fun v => v.category).sum ≤ 8) (hd : decode cc pc = .ok (.invokevirtual index, 3)) (kk : GW p l e R s m args below meth c D A nL 0 0 Q (wC Y q u1) (pc + 3) lv (rest)) : GW p l e R s m args below meth c D A nL 0 0 Q (wC Y q u) pc lv (.int a2 :: .int a1 :: .ref (q 0) :: rest) := g_callVv (ws := wC Y q u) (n := 2) (q0 := 0) (As := [.int a1, .int a2]) F [] [] (kX6_putOnShip hX) (List.append_nil _).symm (List.append_nil _) (by unfold mOK; decide +kernel) rfl rfl cd_yX6_putOnShip hml im_yX6_putOnShip se_yX6_putOnShip in_X6 rfl rfl hR ⟨Nat.zero_le _, Nat.zero_le _⟩ rfl hcat hd kk
theorem dX6_takeAway_0 : decode cX6_takeAway 0 = .ok (.aload_n 0, 1) := by decide +kernel
theorem dX6_takeAway_1 : decode cX6_takeAway 1 = .ok (.getfield 10, 3) := by decide +kernel
theorem dX6_takeAway_4 : decode cX6_takeAway 4 = .ok (.getfield 261, 3) := by decide +kernel
theorem dX6_takeAway_7 : decode cX6_takeAway 7 = .ok (.iload_n 1, 1) := by decide +kernel
theorem dX6_takeAway_8 : decode cX6_takeAway 8 = .ok (.invokevirtual 81, 3) := by decide +kernel
theorem dX6_takeAway_11 : decode cX6_takeAway 11 = .ok (.istore_n 2, 1) := by decide +kernel
theorem dX6_takeAway_12 : decode cX6_takeAway 12 = .ok (.aload_n 0, 1) := by decide +kernel
theorem dX6_takeAway_13 : decode cX6_takeAway 13 = .ok (.getfield 10, 3) := by decide +kernel
theorem dX6_takeAway_16 : decode cX6_takeAway 16 = .ok (.getfield 210, 3) := by decide +kernel
theorem dX6_takeAway_19 : decode cX6_takeAway 19 = .ok (.iload_n 1, 1) := by decide +kernel
theorem dX6_takeAway_20 : decode cX6_takeAway 20 = .ok (.invokevirtual 81, 3) := by decide +kernel
theorem dX6_takeAway_23 : decode cX6_takeAway 23 = .ok (.iconst 1, 1) := by decide +kernel
theorem dX6_takeAway_24 : decode cX6_takeAway 24 = .ok (.if_icmp .ne 25, 3) := by decide +kernel
theorem dX6_takeAway_27 : decode cX6_takeAway 27 = .ok (.aload_n 0, 1) := by decide +kernel
theorem dX6_takeAway_28 : decode cX6_takeAway 28 = .ok (.getfield 26, 3) := by decide +kernel
theorem dX6_takeAway_31 : decode cX6_takeAway 31 = .ok (.iload_n 2, 1) := by decide +kernel
theorem dX6_takeAway_32 : decode cX6_takeAway 32 = .ok (.aload_n 0, 1) := by decide +kernel
theorem dX6_takeAway_33 : decode cX6_takeAway 33 = .ok (.getfield 10, 3) := by decide +kernel
theorem dX6_takeAway_36 : decode cX6_takeAway 36 = .ok (.getfield 289, 3) := by decide +kernel
theorem dX6_takeAway_39 : decode cX6_takeAway 39 = .ok (.iload_n 1, 1) := by decide +kernel
theorem dX6_takeAway_40 : decode cX6_takeAway 40 = .ok (.invokevirtual 81, 3) := by decide +kernel
theorem dX6_takeAway_43 : decode cX6_takeAway 43 = .ok (.invokevirtual 338, 3) := by decide +kernel
theorem dX6_takeAway_46 : decode cX6_takeAway 46 = .ok (.goto 11, 3) := by decide +kernel
theorem dX6_takeAway_49 : decode cX6_takeAway 49 = .ok (.aload_n 0, 1) := by decide +kernel
theorem dX6_takeAway_50 : decode cX6_takeAway 50 = .ok (.getfield 19, 3) := by decide +kernel
theorem dX6_takeAway_53 : decode cX6_takeAway 53 = .ok (.iload_n 2, 1) := by decide +kernel
theorem dX6_takeAway_54 : decode cX6_takeAway 54 = .ok (.invokevirtual 341, 3) := by decide +kernel
theorem dX6_takeAway_57 : decode cX6_takeAway 57 = .ok (.return_, 1) := by decide +kernel
def pX6_takeAway (a1 : Int32) (u : St) : Option (Int32 × St) := if (rg u 5 a1) = 1 then (bnd (pX4_take (rg u 6 a1) (rg u 1 a1) u) (fun r5 w6 => some (0, w6))) else (bnd (pX5_takeTop (rg u 6 a1) u) (fun r2 w3 => some (0, w3)))
set_option maxHeartbeats 4000000 in
set_option maxRecDepth 20000 in
theorem kX6_takeAway {l : Launch} {D : va_G} {Y : Nat → ClassId} {q : Nat → Nat} {a1 : Int32} {u u1 : St} {r : Int32} (hX : pX6_takeAway a1 u = some (r, u1)) : CMv l yX6_takeAway cX6_takeAway 3 3 66 D Y (wC Y q u) (wC Y q u1) [.ref (q 0), .int a1] := by
  refine cm_ofv (by decide) (Nat.le_of_ble_eq_true rfl) rfl (fun p e s m args below meth c A F hr hlk => ?_)
  show GW p l e { frames := 3, cells := 0, slots := 0, locals := 66 } s m args below meth c D A 3 0 0 (MQ below (QV D (wC Y q u1) A) args s 0 0 A) (wC Y q u) 0 [(0, .ref (q 0)), (1, .int a1)] []
  have hX : (if (rg u 5 a1) = 1 then (bnd (pX4_take (rg u 6 a1) (rg u 1 a1) u) (fun r5 w6 => some (0, w6))) else (bnd (pX5_takeTop (rg u 6 a1) u) (fun r2 w3 => some (0, w3)))) = some (r, u1) := hX
  refine g_aload_n F dX6_takeAway_0 0 rfl rfl ?_
  refine G_X6_10 F dX6_takeAway_1 ?_
  refine G_X6_261 F dX6_takeAway_4 ?_
  refine g_iload_n F dX6_takeAway_7 1 rfl rfl ?_
  refine C_rget F 6 (by decide) ml_X6_81 ⟨Nat.le_of_ble_eq_true rfl, Nat.le_of_ble_eq_true rfl⟩ (Nat.le_of_ble_eq_true rfl) dX6_takeAway_8 ?_
  refine g_istore_n (lv' := [(2, .int (rg u 6 a1)), (0, .ref (q 0)), (1, .int a1)]) F dX6_takeAway_11 rfl (by decide) rfl ?_
  refine g_aload_n F dX6_takeAway_12 1 rfl rfl ?_
  refine G_X6_10 F dX6_takeAway_13 ?_
  refine G_X6_210 F dX6_takeAway_16 ?_
  refine g_iload_n F dX6_takeAway_19 2 rfl rfl ?_
  refine C_rget F 5 (by decide) ml_X6_81 ⟨Nat.le_of_ble_eq_true rfl, Nat.le_of_ble_eq_true rfl⟩ (Nat.le_of_ble_eq_true rfl) dX6_takeAway_20 ?_
  refine g_iconst (v := 1) F dX6_takeAway_23 (by decide) ?_
  refine g_icmp_ne (tgt := 49) F dX6_takeAway_24 (by decide) (fun c1 => ?_) (fun c1 => ?_)
  · have hX := if_f hX c1
    refine g_aload_n F dX6_takeAway_49 1 rfl rfl ?_
    refine G_X6_19 F dX6_takeAway_50 ?_
    refine g_iload_n F dX6_takeAway_53 0 rfl rfl ?_
    obtain ⟨r2, w3, hc4, hX⟩ := bnd_s hX
    refine callX5_takeTop F hc4 ml_X6_341 ⟨Nat.le_of_ble_eq_true rfl, Nat.le_of_ble_eq_true rfl⟩ (Nat.le_of_ble_eq_true rfl) dX6_takeAway_54 ?_
    exact g_retV (wf := wC Y q) F hr hlk dX6_takeAway_57 hX
  · have hX := if_t hX c1
    refine g_aload_n F dX6_takeAway_27 1 rfl rfl ?_
    refine G_X6_26 F dX6_takeAway_28 ?_
    refine g_iload_n F dX6_takeAway_31 0 rfl rfl ?_
    refine g_aload_n F dX6_takeAway_32 1 rfl rfl ?_
    refine G_X6_10 F dX6_takeAway_33 ?_
    refine G_X6_289 F dX6_takeAway_36 ?_
    refine g_iload_n F dX6_takeAway_39 2 rfl rfl ?_
    refine C_rget F 1 (by decide) ml_X6_81 ⟨Nat.le_of_ble_eq_true rfl, Nat.le_of_ble_eq_true rfl⟩ (Nat.le_of_ble_eq_true rfl) dX6_takeAway_40 ?_
    obtain ⟨r5, w6, hc7, hX⟩ := bnd_s hX
    refine callX4_take F hc7 ml_X6_338 ⟨Nat.le_of_ble_eq_true rfl, Nat.le_of_ble_eq_true rfl⟩ (Nat.le_of_ble_eq_true rfl) dX6_takeAway_43 ?_
    refine g_goto (tgt := 57) F dX6_takeAway_46 (by decide) ?_
    exact g_retV (wf := wC Y q) F hr hlk dX6_takeAway_57 hX
theorem callX6_takeAway {p : Program} {l : Launch} {e : Env} {R : Room} {s : State} {m : MethodId} {args : Array Value} {below : List Frame} {meth : Method} {c : Code} {D : va_G} {Y : Nat → ClassId} {A : Nat → Prop} {cc : ByteArray} {nL : Nat} {own : String} {Q : State → Prop} {pc : Nat} {lv : List (Nat × Value)} {rest : List Value} {q : Nat → Nat} {a1 : Int32} {u u1 : St} {r : Int32} (F : Fx p s m args c D Y A cc nL own) (hX : pX6_takeAway a1 u = some (r, u1)) {index : Nat} (hml : Cond.methodLink own index yX6_takeAway ∈ TBL) (hR : 3 + 1 ≤ R.frames ∧ 8 + (3 + 11) + 66 ≤ R.locals) (hcat : (rest.map fun v => v.category).sum ≤ 8) (hd : decode cc pc = .ok (.invokevirtual index, 3)) (kk : GW p l e R s m args below meth c D A nL 0 0 Q (wC Y q u1) (pc + 3) lv (rest)) : GW p l e R s m args below meth c D A nL 0 0 Q (wC Y q u) pc lv (.int a1 :: .ref (q 0) :: rest) := g_callVv (ws := wC Y q u) (n := 1) (q0 := 0) (As := [.int a1]) F [] [] (kX6_takeAway hX) (List.append_nil _).symm (List.append_nil _) (by unfold mOK; decide +kernel) rfl rfl cd_yX6_takeAway hml im_yX6_takeAway se_yX6_takeAway in_X6 rfl rfl hR ⟨Nat.zero_le _, Nat.zero_le _⟩ rfl hcat hd kk
theorem dX6_momentKept_0 : decode cX6_momentKept 0 = .ok (.iload_n 1, 1) := by decide +kernel
theorem dX6_momentKept_1 : decode cX6_momentKept 1 = .ok (.bipush 6, 2) := by decide +kernel
theorem dX6_momentKept_3 : decode cX6_momentKept 3 = .ok (.if_icmp .ne 11, 3) := by decide +kernel
theorem dX6_momentKept_6 : decode cX6_momentKept 6 = .ok (.aload_n 0, 1) := by decide +kernel
theorem dX6_momentKept_7 : decode cX6_momentKept 7 = .ok (.getfield 26, 3) := by decide +kernel
theorem dX6_momentKept_10 : decode cX6_momentKept 10 = .ok (.getfield 344, 3) := by decide +kernel
theorem dX6_momentKept_13 : decode cX6_momentKept 13 = .ok (.ireturn, 1) := by decide +kernel
theorem dX6_momentKept_14 : decode cX6_momentKept 14 = .ok (.iconst 0, 1) := by decide +kernel
theorem dX6_momentKept_15 : decode cX6_momentKept 15 = .ok (.istore_n 2, 1) := by decide +kernel
theorem dX6_momentKept_16 : decode cX6_momentKept 16 = .ok (.iconst 0, 1) := by decide +kernel
theorem dX6_momentKept_17 : decode cX6_momentKept 17 = .ok (.istore_n 3, 1) := by decide +kernel
theorem dX6_momentKept_18 : decode cX6_momentKept 18 = .ok (.iload_n 3, 1) := by decide +kernel
theorem dX6_momentKept_19 : decode cX6_momentKept 19 = .ok (.bipush 6, 2) := by decide +kernel
theorem dX6_momentKept_21 : decode cX6_momentKept 21 = .ok (.if_icmp .ge 29, 3) := by decide +kernel
theorem dX6_momentKept_24 : decode cX6_momentKept 24 = .ok (.iload_n 2, 1) := by decide +kernel
theorem dX6_momentKept_25 : decode cX6_momentKept 25 = .ok (.aload_n 0, 1) := by decide +kernel
theorem dX6_momentKept_26 : decode cX6_momentKept 26 = .ok (.getfield 26, 3) := by decide +kernel
theorem dX6_momentKept_29 : decode cX6_momentKept 29 = .ok (.getfield 118, 3) := by decide +kernel
theorem dX6_momentKept_32 : decode cX6_momentKept 32 = .ok (.iload_n 3, 1) := by decide +kernel
theorem dX6_momentKept_33 : decode cX6_momentKept 33 = .ok (.invokevirtual 81, 3) := by decide +kernel
theorem dX6_momentKept_36 : decode cX6_momentKept 36 = .ok (.iload_n 3, 1) := by decide +kernel
theorem dX6_momentKept_37 : decode cX6_momentKept 37 = .ok (.iload_n 1, 1) := by decide +kernel
theorem dX6_momentKept_38 : decode cX6_momentKept 38 = .ok (.invokestatic 286, 3) := by decide +kernel
theorem dX6_momentKept_41 : decode cX6_momentKept 41 = .ok (.imul, 1) := by decide +kernel
theorem dX6_momentKept_42 : decode cX6_momentKept 42 = .ok (.iadd, 1) := by decide +kernel
theorem dX6_momentKept_43 : decode cX6_momentKept 43 = .ok (.istore_n 2, 1) := by decide +kernel
theorem dX6_momentKept_44 : decode cX6_momentKept 44 = .ok (.iinc 3 1, 3) := by decide +kernel
theorem dX6_momentKept_47 : decode cX6_momentKept 47 = .ok (.goto (-29), 3) := by decide +kernel
theorem dX6_momentKept_50 : decode cX6_momentKept 50 = .ok (.iload_n 2, 1) := by decide +kernel
theorem dX6_momentKept_51 : decode cX6_momentKept 51 = .ok (.ireturn, 1) := by decide +kernel
def pX6_momentKept_b18  (n : Nat) : Int32 → Int32 → Int32 → St → Option (Int32 × St) := Nat.rec (fun _ _ _ _ => none) (fun _ K18 x1 x2 x3 v => if 6 ≤ x3 then (some (x2, v)) else (K18 x1 (x2 + ((rg v 12 x3) * (pX6_leverOf x3 x1))) (x3 + 1) v)) n
def pX6_momentKept (a1 : Int32) (u : St) : Option (Int32 × St) := if a1 = 6 then (some (u.2 7, u)) else (pX6_momentKept_b18 100 a1 0 0 u)
set_option maxHeartbeats 4000000 in
set_option maxRecDepth 20000 in
theorem kX6_momentKept {l : Launch} {D : va_G} {Y : Nat → ClassId} {q : Nat → Nat} {a1 : Int32} {u u1 : St} {r : Int32} (hX : pX6_momentKept a1 u = some (r, u1)) : CMi l yX6_momentKept cX6_momentKept 4 (some .int) 1 21 D Y (wC Y q u) (wC Y q u1) [.ref (q 0), .int a1] r := by
  refine cm_ofi (by decide) (Nat.le_of_ble_eq_true rfl) rfl (fun p e s m args below meth c A F hr hlk => ?_)
  show GW p l e { frames := 1, cells := 0, slots := 0, locals := 21 } s m args below meth c D A 4 0 0 (MQ below (QI D (wC Y q u1) r A) args s 0 0 A) (wC Y q u) 0 [(0, .ref (q 0)), (1, .int a1)] []
  have b18 : ∀  (n : Nat) (x1 : Int32) (x2 : Int32) (x3 : Int32) (v : St), pX6_momentKept_b18  n x1 x2 x3 v = some (r, u1) → GW p l e { frames := 1, cells := 0, slots := 0, locals := 21 } s m args below meth c D A 4 0 0 (MQ below (QI D (wC Y q u1) r A) args s 0 0 A) (wC Y q v) 18 [(0, .ref (q 0)), (1, .int x1), (2, .int x2), (3, .int x3)] [] := by
    intro  n
    induction n with
    | zero => intro x1 x2 x3 v hX; cases hX
    | succ n ih =>
      intro x1 x2 x3 v hX
      obtain ⟨K18, eK⟩ : ∃ K : Int32 → Int32 → Int32 → St → Option (Int32 × St), K = pX6_momentKept_b18  n := ⟨_, rfl⟩
      have hK18 : ∀ (x1 : Int32) (x2 : Int32) (x3 : Int32) (v : St), K18 x1 x2 x3 v = some (r, u1) → GW p l e { frames := 1, cells := 0, slots := 0, locals := 21 } s m args below meth c D A 4 0 0 (MQ below (QI D (wC Y q u1) r A) args s 0 0 A) (wC Y q v) 18 [(0, .ref (q 0)), (1, .int x1), (2, .int x2), (3, .int x3)] [] := by rw [eK]; exact ih
      have hX : (if 6 ≤ x3 then (some (x2, v)) else (K18 x1 (x2 + ((rg v 12 x3) * (pX6_leverOf x3 x1))) (x3 + 1) v)) = some (r, u1) := by rw [eK]; exact hX
      refine g_iload_n F dX6_momentKept_18 3 rfl rfl ?_
      refine g_bipush (v := 6) F dX6_momentKept_19 (by decide) ?_
      refine g_icmp_ge (tgt := 50) F dX6_momentKept_21 (by decide) (fun c2 => ?_) (fun c2 => ?_)
      · have hX := if_t hX c2
        refine g_iload_n F dX6_momentKept_50 2 rfl rfl ?_
        exact g_retC (wf := wC Y q) F hr rfl hlk dX6_momentKept_51 hX
      · have hX := if_f hX c2
        refine g_iload_n F dX6_momentKept_24 2 rfl rfl ?_
        refine g_aload_n F dX6_momentKept_25 0 rfl rfl ?_
        refine G_X6_26 F dX6_momentKept_26 ?_
        refine G_X6_118 F dX6_momentKept_29 ?_
        refine g_iload_n F dX6_momentKept_32 3 rfl rfl ?_
        refine C_rget F 12 (by decide) ml_X6_81 ⟨Nat.le_of_ble_eq_true rfl, Nat.le_of_ble_eq_true rfl⟩ (Nat.le_of_ble_eq_true rfl) dX6_momentKept_33 ?_
        refine g_iload_n F dX6_momentKept_36 3 rfl rfl ?_
        refine g_iload_n F dX6_momentKept_37 1 rfl rfl ?_
        refine callX6_leverOf F ml_X6_286 ⟨Nat.le_of_ble_eq_true rfl, Nat.le_of_ble_eq_true rfl⟩ (Nat.le_of_ble_eq_true rfl) dX6_momentKept_38 ?_
        refine g_imul F dX6_momentKept_41 ?_
        refine g_iadd F dX6_momentKept_42 ?_
        refine g_istore_n (lv' := [(2, .int (x2 + ((rg v 12 x3) * (pX6_leverOf x3 x1)))), (0, .ref (q 0)), (1, .int x1), (3, .int x3)]) F dX6_momentKept_43 rfl (by decide) rfl ?_
        refine g_iinc (v := x3 + 1) (lv' := [(3, .int (x3 + 1)), (2, .int (x2 + ((rg v 12 x3) * (pX6_leverOf x3 x1)))), (0, .ref (q 0)), (1, .int x1)]) F dX6_momentKept_44 3 rfl rfl (by decide) rfl ?_
        refine g_goto (tgt := 18) F dX6_momentKept_47 (by decide) ?_
        refine g_sub [2, 3, 1, 0] rfl ?_
        exact hK18 x1 (x2 + ((rg v 12 x3) * (pX6_leverOf x3 x1))) (x3 + 1) v hX
  have hX : (if a1 = 6 then (some (u.2 7, u)) else (pX6_momentKept_b18 100 a1 0 0 u)) = some (r, u1) := hX
  refine g_iload_n F dX6_momentKept_0 1 rfl rfl ?_
  refine g_bipush (v := 6) F dX6_momentKept_1 (by decide) ?_
  refine g_icmp_ne (tgt := 14) F dX6_momentKept_3 (by decide) (fun c1 => ?_) (fun c1 => ?_)
  · have hX := if_f hX c1
    refine g_iconst (v := 0) F dX6_momentKept_14 (by decide) ?_
    refine g_istore_n (lv' := [(2, .int 0), (0, .ref (q 0)), (1, .int a1)]) F dX6_momentKept_15 rfl (by decide) rfl ?_
    refine g_iconst (v := 0) F dX6_momentKept_16 (by decide) ?_
    refine g_istore_n (lv' := [(3, .int 0), (2, .int 0), (0, .ref (q 0)), (1, .int a1)]) F dX6_momentKept_17 rfl (by decide) rfl ?_
    refine g_sub [2, 3, 1, 0] rfl ?_
    exact b18 100 a1 0 0 u hX
  · have hX := if_t hX c1
    refine g_aload_n F dX6_momentKept_6 0 rfl rfl ?_
    refine G_X6_26 F dX6_momentKept_7 ?_
    refine G_X6_344 F dX6_momentKept_10 ?_
    exact g_retC (wf := wC Y q) F hr rfl hlk dX6_momentKept_13 hX
theorem callX6_momentKept {p : Program} {l : Launch} {e : Env} {R : Room} {s : State} {m : MethodId} {args : Array Value} {below : List Frame} {meth : Method} {c : Code} {D : va_G} {Y : Nat → ClassId} {A : Nat → Prop} {cc : ByteArray} {nL : Nat} {own : String} {Q : State → Prop} {pc : Nat} {lv : List (Nat × Value)} {rest : List Value} {q : Nat → Nat} {a1 : Int32} {u u1 : St} {r : Int32} (F : Fx p s m args c D Y A cc nL own) (hX : pX6_momentKept a1 u = some (r, u1)) {index : Nat} (hml : Cond.methodLink own index yX6_momentKept ∈ TBL) (hR : 1 + 1 ≤ R.frames ∧ 8 + (4 + 11) + 21 ≤ R.locals) (hcat : (rest.map fun v => v.category).sum ≤ 8) (hd : decode cc pc = .ok (.invokevirtual index, 3)) (kk : GW p l e R s m args below meth c D A nL 0 0 Q (wC Y q u1) (pc + 3) lv (.int r :: rest)) : GW p l e R s m args below meth c D A nL 0 0 Q (wC Y q u) pc lv (.int a1 :: .ref (q 0) :: rest) := g_callVi (ws := wC Y q u) (n := 1) (q0 := 0) (As := [.int a1]) F [] [] (kX6_momentKept hX) (List.append_nil _).symm (List.append_nil _) (by unfold mOK; decide +kernel) rfl rfl cd_yX6_momentKept hml im_yX6_momentKept se_yX6_momentKept in_X6 rfl rfl hR ⟨Nat.zero_le _, Nat.zero_le _⟩ rfl hcat hd kk
theorem dX6_isJammed_0 : decode cX6_isJammed 0 = .ok (.aload_n 0, 1) := by decide +kernel
theorem dX6_isJammed_1 : decode cX6_isJammed 1 = .ok (.getfield 129, 3) := by decide +kernel
theorem dX6_isJammed_4 : decode cX6_isJammed 4 = .ok (.aload_n 0, 1) := by decide +kernel
theorem dX6_isJammed_5 : decode cX6_isJammed 5 = .ok (.getfield 26, 3) := by decide +kernel
theorem dX6_isJammed_8 : decode cX6_isJammed 8 = .ok (.getfield 126, 3) := by decide +kernel
theorem dX6_isJammed_11 : decode cX6_isJammed 11 = .ok (.iload_n 1, 1) := by decide +kernel
theorem dX6_isJammed_12 : decode cX6_isJammed 12 = .ok (.invokevirtual 81, 3) := by decide +kernel
theorem dX6_isJammed_15 : decode cX6_isJammed 15 = .ok (.if_icmp .ge 7, 3) := by decide +kernel
theorem dX6_isJammed_18 : decode cX6_isJammed 18 = .ok (.iconst 1, 1) := by decide +kernel
theorem dX6_isJammed_19 : decode cX6_isJammed 19 = .ok (.goto 4, 3) := by decide +kernel
theorem dX6_isJammed_22 : decode cX6_isJammed 22 = .ok (.iconst 0, 1) := by decide +kernel
theorem dX6_isJammed_23 : decode cX6_isJammed 23 = .ok (.ireturn, 1) := by decide +kernel
def pX6_isJammed (a1 : Int32) (u : St) : Option (Int32 × St) := if (rg u 10 a1) ≤ (u.2 0) then (some (0, u)) else (some (1, u))
set_option maxHeartbeats 4000000 in
set_option maxRecDepth 20000 in
theorem kX6_isJammed {l : Launch} {D : va_G} {Y : Nat → ClassId} {q : Nat → Nat} {a1 : Int32} {u u1 : St} {r : Int32} (hX : pX6_isJammed a1 u = some (r, u1)) : CMi l yX6_isJammed cX6_isJammed 2 (some .boolean) 1 21 D Y (wC Y q u) (wC Y q u1) [.ref (q 0), .int a1] r := by
  refine cm_ofi (by decide) (Nat.le_of_ble_eq_true rfl) rfl (fun p e s m args below meth c A F hr hlk => ?_)
  show GW p l e { frames := 1, cells := 0, slots := 0, locals := 21 } s m args below meth c D A 2 0 0 (MQ below (QI D (wC Y q u1) r A) args s 0 0 A) (wC Y q u) 0 [(0, .ref (q 0)), (1, .int a1)] []
  have hX : (if (rg u 10 a1) ≤ (u.2 0) then (some (0, u)) else (some (1, u))) = some (r, u1) := hX
  refine g_aload_n F dX6_isJammed_0 0 rfl rfl ?_
  refine G_X6_129 F dX6_isJammed_1 ?_
  refine g_aload_n F dX6_isJammed_4 0 rfl rfl ?_
  refine G_X6_26 F dX6_isJammed_5 ?_
  refine G_X6_126 F dX6_isJammed_8 ?_
  refine g_iload_n F dX6_isJammed_11 1 rfl rfl ?_
  refine C_rget F 10 (by decide) ml_X6_81 ⟨Nat.le_of_ble_eq_true rfl, Nat.le_of_ble_eq_true rfl⟩ (Nat.le_of_ble_eq_true rfl) dX6_isJammed_12 ?_
  refine g_icmp_ge (tgt := 22) F dX6_isJammed_15 (by decide) (fun c1 => ?_) (fun c1 => ?_)
  · have hX := if_t hX c1
    refine g_iconst (v := 0) F dX6_isJammed_22 (by decide) ?_
    exact g_retC (wf := wC Y q) F hr rfl hlk dX6_isJammed_23 hX
  · have hX := if_f hX c1
    refine g_iconst (v := 1) F dX6_isJammed_18 (by decide) ?_
    refine g_goto (tgt := 23) F dX6_isJammed_19 (by decide) ?_
    exact g_retC (wf := wC Y q) F hr rfl hlk dX6_isJammed_23 hX
theorem callX6_isJammed {p : Program} {l : Launch} {e : Env} {R : Room} {s : State} {m : MethodId} {args : Array Value} {below : List Frame} {meth : Method} {c : Code} {D : va_G} {Y : Nat → ClassId} {A : Nat → Prop} {cc : ByteArray} {nL : Nat} {own : String} {Q : State → Prop} {pc : Nat} {lv : List (Nat × Value)} {rest : List Value} {q : Nat → Nat} {a1 : Int32} {u u1 : St} {r : Int32} (F : Fx p s m args c D Y A cc nL own) (hX : pX6_isJammed a1 u = some (r, u1)) {index : Nat} (hml : Cond.methodLink own index yX6_isJammed ∈ TBL) (hR : 1 + 1 ≤ R.frames ∧ 8 + (2 + 11) + 21 ≤ R.locals) (hcat : (rest.map fun v => v.category).sum ≤ 8) (hd : decode cc pc = .ok (.invokevirtual index, 3)) (kk : GW p l e R s m args below meth c D A nL 0 0 Q (wC Y q u1) (pc + 3) lv (.int r :: rest)) : GW p l e R s m args below meth c D A nL 0 0 Q (wC Y q u) pc lv (.int a1 :: .ref (q 0) :: rest) := g_callVi (ws := wC Y q u) (n := 1) (q0 := 0) (As := [.int a1]) F [] [] (kX6_isJammed hX) (List.append_nil _).symm (List.append_nil _) (by unfold mOK; decide +kernel) rfl rfl cd_yX6_isJammed hml im_yX6_isJammed se_yX6_isJammed in_X6 rfl rfl hR ⟨Nat.zero_le _, Nat.zero_le _⟩ rfl hcat hd kk
theorem dX6_canLoad_0 : decode cX6_canLoad 0 = .ok (.aload_n 0, 1) := by decide +kernel
theorem dX6_canLoad_1 : decode cX6_canLoad 1 = .ok (.getfield 10, 3) := by decide +kernel
theorem dX6_canLoad_4 : decode cX6_canLoad 4 = .ok (.getfield 210, 3) := by decide +kernel
theorem dX6_canLoad_7 : decode cX6_canLoad 7 = .ok (.iload_n 1, 1) := by decide +kernel
theorem dX6_canLoad_8 : decode cX6_canLoad 8 = .ok (.invokevirtual 81, 3) := by decide +kernel
theorem dX6_canLoad_11 : decode cX6_canLoad 11 = .ok (.ifCond .ne 58, 3) := by decide +kernel
theorem dX6_canLoad_14 : decode cX6_canLoad 14 = .ok (.aload_n 0, 1) := by decide +kernel
theorem dX6_canLoad_15 : decode cX6_canLoad 15 = .ok (.getfield 19, 3) := by decide +kernel
theorem dX6_canLoad_18 : decode cX6_canLoad 18 = .ok (.aload_n 0, 1) := by decide +kernel
theorem dX6_canLoad_19 : decode cX6_canLoad 19 = .ok (.getfield 10, 3) := by decide +kernel
theorem dX6_canLoad_22 : decode cX6_canLoad 22 = .ok (.getfield 261, 3) := by decide +kernel
theorem dX6_canLoad_25 : decode cX6_canLoad 25 = .ok (.iload_n 1, 1) := by decide +kernel
theorem dX6_canLoad_26 : decode cX6_canLoad 26 = .ok (.invokevirtual 81, 3) := by decide +kernel
theorem dX6_canLoad_29 : decode cX6_canLoad 29 = .ok (.invokevirtual 315, 3) := by decide +kernel
theorem dX6_canLoad_32 : decode cX6_canLoad 32 = .ok (.iload_n 1, 1) := by decide +kernel
theorem dX6_canLoad_33 : decode cX6_canLoad 33 = .ok (.if_icmp .ne 36, 3) := by decide +kernel
theorem dX6_canLoad_36 : decode cX6_canLoad 36 = .ok (.aload_n 0, 1) := by decide +kernel
theorem dX6_canLoad_37 : decode cX6_canLoad 37 = .ok (.getfield 10, 3) := by decide +kernel
theorem dX6_canLoad_40 : decode cX6_canLoad 40 = .ok (.iload_n 1, 1) := by decide +kernel
theorem dX6_canLoad_41 : decode cX6_canLoad 41 = .ok (.invokevirtual 197, 3) := by decide +kernel
theorem dX6_canLoad_44 : decode cX6_canLoad 44 = .ok (.ifCond .ne 25, 3) := by decide +kernel
theorem dX6_canLoad_47 : decode cX6_canLoad 47 = .ok (.aload_n 0, 1) := by decide +kernel
theorem dX6_canLoad_48 : decode cX6_canLoad 48 = .ok (.aload_n 0, 1) := by decide +kernel
theorem dX6_canLoad_49 : decode cX6_canLoad 49 = .ok (.getfield 10, 3) := by decide +kernel
theorem dX6_canLoad_52 : decode cX6_canLoad 52 = .ok (.getfield 213, 3) := by decide +kernel
theorem dX6_canLoad_55 : decode cX6_canLoad 55 = .ok (.iload_n 1, 1) := by decide +kernel
theorem dX6_canLoad_56 : decode cX6_canLoad 56 = .ok (.invokevirtual 81, 3) := by decide +kernel
theorem dX6_canLoad_59 : decode cX6_canLoad 59 = .ok (.invokevirtual 202, 3) := by decide +kernel
theorem dX6_canLoad_62 : decode cX6_canLoad 62 = .ok (.ifCond .eq 7, 3) := by decide +kernel
theorem dX6_canLoad_65 : decode cX6_canLoad 65 = .ok (.iconst 1, 1) := by decide +kernel
theorem dX6_canLoad_66 : decode cX6_canLoad 66 = .ok (.goto 4, 3) := by decide +kernel
theorem dX6_canLoad_69 : decode cX6_canLoad 69 = .ok (.iconst 0, 1) := by decide +kernel
theorem dX6_canLoad_70 : decode cX6_canLoad 70 = .ok (.ireturn, 1) := by decide +kernel
def pX6_canLoad_b69   (v : St) : Option (Int32 × St) := some (0, v)
def pX6_canLoad (a1 : Int32) (u : St) : Option (Int32 × St) := if (rg u 5 a1) = 0 then (bnd (pX5_topOf (rg u 6 a1) u) (fun r2 w3 => if r2 = a1 then (bnd (pX0_isHeld a1 w3) (fun r6 w7 => if r6 = 0 then (bnd (pX6_isAhead (rg w7 2 a1) w7) (fun r10 w11 => if r10 = 0 then (pX6_canLoad_b69 w11) else (some (1, w11)))) else (pX6_canLoad_b69 w7))) else (pX6_canLoad_b69 w3))) else (pX6_canLoad_b69 u)
set_option maxHeartbeats 4000000 in
set_option maxRecDepth 20000 in
theorem kX6_canLoad {l : Launch} {D : va_G} {Y : Nat → ClassId} {q : Nat → Nat} {a1 : Int32} {u u1 : St} {r : Int32} (hX : pX6_canLoad a1 u = some (r, u1)) : CMi l yX6_canLoad cX6_canLoad 2 (some .boolean) 2 43 D Y (wC Y q u) (wC Y q u1) [.ref (q 0), .int a1] r := by
  refine cm_ofi (by decide) (Nat.le_of_ble_eq_true rfl) rfl (fun p e s m args below meth c A F hr hlk => ?_)
  show GW p l e { frames := 2, cells := 0, slots := 0, locals := 43 } s m args below meth c D A 2 0 0 (MQ below (QI D (wC Y q u1) r A) args s 0 0 A) (wC Y q u) 0 [(0, .ref (q 0)), (1, .int a1)] []
  have b69 : ∀   (v : St), pX6_canLoad_b69  v = some (r, u1) → GW p l e { frames := 2, cells := 0, slots := 0, locals := 43 } s m args below meth c D A 2 0 0 (MQ below (QI D (wC Y q u1) r A) args s 0 0 A) (wC Y q v) 69 [] [] := by
    intro  v hX
    have hX : (some (0, v)) = some (r, u1) := hX
    refine g_iconst (v := 0) F dX6_canLoad_69 (by decide) ?_
    exact g_retC (wf := wC Y q) F hr rfl hlk dX6_canLoad_70 hX
  have hX : (if (rg u 5 a1) = 0 then (bnd (pX5_topOf (rg u 6 a1) u) (fun r2 w3 => if r2 = a1 then (bnd (pX0_isHeld a1 w3) (fun r6 w7 => if r6 = 0 then (bnd (pX6_isAhead (rg w7 2 a1) w7) (fun r10 w11 => if r10 = 0 then (pX6_canLoad_b69 w11) else (some (1, w11)))) else (pX6_canLoad_b69 w7))) else (pX6_canLoad_b69 w3))) else (pX6_canLoad_b69 u)) = some (r, u1) := hX
  refine g_aload_n F dX6_canLoad_0 0 rfl rfl ?_
  refine G_X6_10 F dX6_canLoad_1 ?_
  refine G_X6_210 F dX6_canLoad_4 ?_
  refine g_iload_n F dX6_canLoad_7 1 rfl rfl ?_
  refine C_rget F 5 (by decide) ml_X6_81 ⟨Nat.le_of_ble_eq_true rfl, Nat.le_of_ble_eq_true rfl⟩ (Nat.le_of_ble_eq_true rfl) dX6_canLoad_8 ?_
  refine g_if_ne (tgt := 69) F dX6_canLoad_11 (by decide) (fun c1 => ?_) (fun c1 => ?_)
  · have hX := if_f hX c1
    refine g_sub [] rfl ?_
    exact b69 u hX
  · have hX := if_t hX c1
    refine g_aload_n F dX6_canLoad_14 0 rfl rfl ?_
    refine G_X6_19 F dX6_canLoad_15 ?_
    refine g_aload_n F dX6_canLoad_18 0 rfl rfl ?_
    refine G_X6_10 F dX6_canLoad_19 ?_
    refine G_X6_261 F dX6_canLoad_22 ?_
    refine g_iload_n F dX6_canLoad_25 1 rfl rfl ?_
    refine C_rget F 6 (by decide) ml_X6_81 ⟨Nat.le_of_ble_eq_true rfl, Nat.le_of_ble_eq_true rfl⟩ (Nat.le_of_ble_eq_true rfl) dX6_canLoad_26 ?_
    obtain ⟨r2, w3, hc4, hX⟩ := bnd_s hX
    refine callX5_topOf F hc4 ml_X6_315 ⟨Nat.le_of_ble_eq_true rfl, Nat.le_of_ble_eq_true rfl⟩ (Nat.le_of_ble_eq_true rfl) dX6_canLoad_29 ?_
    refine g_iload_n F dX6_canLoad_32 1 rfl rfl ?_
    refine g_icmp_ne (tgt := 69) F dX6_canLoad_33 (by decide) (fun c5 => ?_) (fun c5 => ?_)
    · have hX := if_f hX c5
      refine g_sub [] rfl ?_
      exact b69 w3 hX
    · have hX := if_t hX c5
      refine g_aload_n F dX6_canLoad_36 0 rfl rfl ?_
      refine G_X6_10 F dX6_canLoad_37 ?_
      refine g_iload_n F dX6_canLoad_40 1 rfl rfl ?_
      obtain ⟨r6, w7, hc8, hX⟩ := bnd_s hX
      refine callX0_isHeld F hc8 ml_X6_197 ⟨Nat.le_of_ble_eq_true rfl, Nat.le_of_ble_eq_true rfl⟩ (Nat.le_of_ble_eq_true rfl) dX6_canLoad_41 ?_
      refine g_if_ne (tgt := 69) F dX6_canLoad_44 (by decide) (fun c9 => ?_) (fun c9 => ?_)
      · have hX := if_f hX c9
        refine g_sub [] rfl ?_
        exact b69 w7 hX
      · have hX := if_t hX c9
        refine g_aload_n F dX6_canLoad_47 0 rfl rfl ?_
        refine g_aload_n F dX6_canLoad_48 0 rfl rfl ?_
        refine G_X6_10 F dX6_canLoad_49 ?_
        refine G_X6_213 F dX6_canLoad_52 ?_
        refine g_iload_n F dX6_canLoad_55 1 rfl rfl ?_
        refine C_rget F 2 (by decide) ml_X6_81 ⟨Nat.le_of_ble_eq_true rfl, Nat.le_of_ble_eq_true rfl⟩ (Nat.le_of_ble_eq_true rfl) dX6_canLoad_56 ?_
        obtain ⟨r10, w11, hc12, hX⟩ := bnd_s hX
        refine callX6_isAhead F hc12 ml_X6_202 ⟨Nat.le_of_ble_eq_true rfl, Nat.le_of_ble_eq_true rfl⟩ (Nat.le_of_ble_eq_true rfl) dX6_canLoad_59 ?_
        refine g_if_eq (tgt := 69) F dX6_canLoad_62 (by decide) (fun c13 => ?_) (fun c13 => ?_)
        · have hX := if_t hX c13
          refine g_sub [] rfl ?_
          exact b69 w11 hX
        · have hX := if_f hX c13
          refine g_iconst (v := 1) F dX6_canLoad_65 (by decide) ?_
          refine g_goto (tgt := 70) F dX6_canLoad_66 (by decide) ?_
          exact g_retC (wf := wC Y q) F hr rfl hlk dX6_canLoad_70 hX
theorem callX6_canLoad {p : Program} {l : Launch} {e : Env} {R : Room} {s : State} {m : MethodId} {args : Array Value} {below : List Frame} {meth : Method} {c : Code} {D : va_G} {Y : Nat → ClassId} {A : Nat → Prop} {cc : ByteArray} {nL : Nat} {own : String} {Q : State → Prop} {pc : Nat} {lv : List (Nat × Value)} {rest : List Value} {q : Nat → Nat} {a1 : Int32} {u u1 : St} {r : Int32} (F : Fx p s m args c D Y A cc nL own) (hX : pX6_canLoad a1 u = some (r, u1)) {index : Nat} (hml : Cond.methodLink own index yX6_canLoad ∈ TBL) (hR : 2 + 1 ≤ R.frames ∧ 8 + (2 + 11) + 43 ≤ R.locals) (hcat : (rest.map fun v => v.category).sum ≤ 8) (hd : decode cc pc = .ok (.invokevirtual index, 3)) (kk : GW p l e R s m args below meth c D A nL 0 0 Q (wC Y q u1) (pc + 3) lv (.int r :: rest)) : GW p l e R s m args below meth c D A nL 0 0 Q (wC Y q u) pc lv (.int a1 :: .ref (q 0) :: rest) := g_callVi (ws := wC Y q u) (n := 1) (q0 := 0) (As := [.int a1]) F [] [] (kX6_canLoad hX) (List.append_nil _).symm (List.append_nil _) (by unfold mOK; decide +kernel) rfl rfl cd_yX6_canLoad hml im_yX6_canLoad se_yX6_canLoad in_X6 rfl rfl hR ⟨Nat.zero_le _, Nat.zero_le _⟩ rfl hcat hd kk
theorem dX6_canTake_0 : decode cX6_canTake 0 = .ok (.aload_n 0, 1) := by decide +kernel
theorem dX6_canTake_1 : decode cX6_canTake 1 = .ok (.getfield 10, 3) := by decide +kernel
theorem dX6_canTake_4 : decode cX6_canTake 4 = .ok (.getfield 210, 3) := by decide +kernel
theorem dX6_canTake_7 : decode cX6_canTake 7 = .ok (.iload_n 1, 1) := by decide +kernel
theorem dX6_canTake_8 : decode cX6_canTake 8 = .ok (.invokevirtual 81, 3) := by decide +kernel
theorem dX6_canTake_11 : decode cX6_canTake 11 = .ok (.iconst 1, 1) := by decide +kernel
theorem dX6_canTake_12 : decode cX6_canTake 12 = .ok (.if_icmp .eq 5, 3) := by decide +kernel
theorem dX6_canTake_15 : decode cX6_canTake 15 = .ok (.iconst 0, 1) := by decide +kernel
theorem dX6_canTake_16 : decode cX6_canTake 16 = .ok (.ireturn, 1) := by decide +kernel
theorem dX6_canTake_17 : decode cX6_canTake 17 = .ok (.aload_n 0, 1) := by decide +kernel
theorem dX6_canTake_18 : decode cX6_canTake 18 = .ok (.getfield 10, 3) := by decide +kernel
theorem dX6_canTake_21 : decode cX6_canTake 21 = .ok (.getfield 261, 3) := by decide +kernel
theorem dX6_canTake_24 : decode cX6_canTake 24 = .ok (.iload_n 1, 1) := by decide +kernel
theorem dX6_canTake_25 : decode cX6_canTake 25 = .ok (.invokevirtual 81, 3) := by decide +kernel
theorem dX6_canTake_28 : decode cX6_canTake 28 = .ok (.istore_n 3, 1) := by decide +kernel
theorem dX6_canTake_29 : decode cX6_canTake 29 = .ok (.aload_n 0, 1) := by decide +kernel
theorem dX6_canTake_30 : decode cX6_canTake 30 = .ok (.getfield 40, 3) := by decide +kernel
theorem dX6_canTake_33 : decode cX6_canTake 33 = .ok (.iload_n 2, 1) := by decide +kernel
theorem dX6_canTake_34 : decode cX6_canTake 34 = .ok (.iload_n 3, 1) := by decide +kernel
theorem dX6_canTake_35 : decode cX6_canTake 35 = .ok (.invokestatic 283, 3) := by decide +kernel
theorem dX6_canTake_38 : decode cX6_canTake 38 = .ok (.invokevirtual 354, 3) := by decide +kernel
theorem dX6_canTake_41 : decode cX6_canTake 41 = .ok (.ifCond .eq 37, 3) := by decide +kernel
theorem dX6_canTake_44 : decode cX6_canTake 44 = .ok (.aload_n 0, 1) := by decide +kernel
theorem dX6_canTake_45 : decode cX6_canTake 45 = .ok (.getfield 26, 3) := by decide +kernel
theorem dX6_canTake_48 : decode cX6_canTake 48 = .ok (.iload_n 3, 1) := by decide +kernel
theorem dX6_canTake_49 : decode cX6_canTake 49 = .ok (.invokevirtual 330, 3) := by decide +kernel
theorem dX6_canTake_52 : decode cX6_canTake 52 = .ok (.iconst (-1), 1) := by decide +kernel
theorem dX6_canTake_53 : decode cX6_canTake 53 = .ok (.if_icmp .ne 25, 3) := by decide +kernel
theorem dX6_canTake_56 : decode cX6_canTake 56 = .ok (.iload_n 3, 1) := by decide +kernel
theorem dX6_canTake_57 : decode cX6_canTake 57 = .ok (.invokestatic 297, 3) := by decide +kernel
theorem dX6_canTake_60 : decode cX6_canTake 60 = .ok (.aload_n 0, 1) := by decide +kernel
theorem dX6_canTake_61 : decode cX6_canTake 61 = .ok (.getfield 26, 3) := by decide +kernel
theorem dX6_canTake_64 : decode cX6_canTake 64 = .ok (.iload_n 3, 1) := by decide +kernel
theorem dX6_canTake_65 : decode cX6_canTake 65 = .ok (.invokestatic 283, 3) := by decide +kernel
theorem dX6_canTake_68 : decode cX6_canTake 68 = .ok (.invokevirtual 271, 3) := by decide +kernel
theorem dX6_canTake_71 : decode cX6_canTake 71 = .ok (.if_icmp .ne 7, 3) := by decide +kernel
theorem dX6_canTake_74 : decode cX6_canTake 74 = .ok (.iconst 1, 1) := by decide +kernel
theorem dX6_canTake_75 : decode cX6_canTake 75 = .ok (.goto 4, 3) := by decide +kernel
theorem dX6_canTake_78 : decode cX6_canTake 78 = .ok (.iconst 0, 1) := by decide +kernel
theorem dX6_canTake_79 : decode cX6_canTake 79 = .ok (.ireturn, 1) := by decide +kernel
def pX6_canTake_b78   (v : St) : Option (Int32 × St) := some (0, v)
def pX6_canTake (a1 : Int32) (a2 : Int32) (u : St) : Option (Int32 × St) := if (rg u 5 a1) = 1 then (bnd (pX1_reaches a2 (pX6_bayOf (rg u 6 a1)) u) (fun r2 w3 => if r2 = 0 then (pX6_canTake_b78 w3) else (bnd (pX4_boxOver (rg u 6 a1) w3) (fun r6 w7 => if r6 = ((-1)) then (bnd (pX4_isOpen (pX6_bayOf (rg u 6 a1)) w7) (fun r10 w11 => if (pX6_isUnderHatch (rg u 6 a1)) = r10 then (some (1, w11)) else (pX6_canTake_b78 w11))) else (pX6_canTake_b78 w7))))) else (some (0, u))
set_option maxHeartbeats 4000000 in
set_option maxRecDepth 20000 in
theorem kX6_canTake {l : Launch} {D : va_G} {Y : Nat → ClassId} {q : Nat → Nat} {a1 a2 : Int32} {u u1 : St} {r : Int32} (hX : pX6_canTake a1 a2 u = some (r, u1)) : CMi l yX6_canTake cX6_canTake 4 (some .boolean) 3 61 D Y (wC Y q u) (wC Y q u1) [.ref (q 0), .int a1, .int a2] r := by
  refine cm_ofi (by decide) (Nat.le_of_ble_eq_true rfl) rfl (fun p e s m args below meth c A F hr hlk => ?_)
  show GW p l e { frames := 3, cells := 0, slots := 0, locals := 61 } s m args below meth c D A 4 0 0 (MQ below (QI D (wC Y q u1) r A) args s 0 0 A) (wC Y q u) 0 [(0, .ref (q 0)), (1, .int a1), (2, .int a2)] []
  have b78 : ∀   (v : St), pX6_canTake_b78  v = some (r, u1) → GW p l e { frames := 3, cells := 0, slots := 0, locals := 61 } s m args below meth c D A 4 0 0 (MQ below (QI D (wC Y q u1) r A) args s 0 0 A) (wC Y q v) 78 [] [] := by
    intro  v hX
    have hX : (some (0, v)) = some (r, u1) := hX
    refine g_iconst (v := 0) F dX6_canTake_78 (by decide) ?_
    exact g_retC (wf := wC Y q) F hr rfl hlk dX6_canTake_79 hX
  have hX : (if (rg u 5 a1) = 1 then (bnd (pX1_reaches a2 (pX6_bayOf (rg u 6 a1)) u) (fun r2 w3 => if r2 = 0 then (pX6_canTake_b78 w3) else (bnd (pX4_boxOver (rg u 6 a1) w3) (fun r6 w7 => if r6 = ((-1)) then (bnd (pX4_isOpen (pX6_bayOf (rg u 6 a1)) w7) (fun r10 w11 => if (pX6_isUnderHatch (rg u 6 a1)) = r10 then (some (1, w11)) else (pX6_canTake_b78 w11))) else (pX6_canTake_b78 w7))))) else (some (0, u))) = some (r, u1) := hX
  refine g_aload_n F dX6_canTake_0 0 rfl rfl ?_
  refine G_X6_10 F dX6_canTake_1 ?_
  refine G_X6_210 F dX6_canTake_4 ?_
  refine g_iload_n F dX6_canTake_7 1 rfl rfl ?_
  refine C_rget F 5 (by decide) ml_X6_81 ⟨Nat.le_of_ble_eq_true rfl, Nat.le_of_ble_eq_true rfl⟩ (Nat.le_of_ble_eq_true rfl) dX6_canTake_8 ?_
  refine g_iconst (v := 1) F dX6_canTake_11 (by decide) ?_
  refine g_icmp_eq (tgt := 17) F dX6_canTake_12 (by decide) (fun c1 => ?_) (fun c1 => ?_)
  · have hX := if_t hX c1
    refine g_aload_n F dX6_canTake_17 0 rfl rfl ?_
    refine G_X6_10 F dX6_canTake_18 ?_
    refine G_X6_261 F dX6_canTake_21 ?_
    refine g_iload_n F dX6_canTake_24 1 rfl rfl ?_
    refine C_rget F 6 (by decide) ml_X6_81 ⟨Nat.le_of_ble_eq_true rfl, Nat.le_of_ble_eq_true rfl⟩ (Nat.le_of_ble_eq_true rfl) dX6_canTake_25 ?_
    refine g_istore_n (lv' := [(3, .int (rg u 6 a1)), (0, .ref (q 0)), (1, .int a1), (2, .int a2)]) F dX6_canTake_28 rfl (by decide) rfl ?_
    refine g_aload_n F dX6_canTake_29 1 rfl rfl ?_
    refine G_X6_40 F dX6_canTake_30 ?_
    refine g_iload_n F dX6_canTake_33 3 rfl rfl ?_
    refine g_iload_n F dX6_canTake_34 0 rfl rfl ?_
    refine callX6_bayOf F ml_X6_283 ⟨Nat.le_of_ble_eq_true rfl, Nat.le_of_ble_eq_true rfl⟩ (Nat.le_of_ble_eq_true rfl) dX6_canTake_35 ?_
    obtain ⟨r2, w3, hc4, hX⟩ := bnd_s hX
    refine callX1_reaches F hc4 ml_X6_354 ⟨Nat.le_of_ble_eq_true rfl, Nat.le_of_ble_eq_true rfl⟩ (Nat.le_of_ble_eq_true rfl) dX6_canTake_38 ?_
    refine g_if_eq (tgt := 78) F dX6_canTake_41 (by decide) (fun c5 => ?_) (fun c5 => ?_)
    · have hX := if_t hX c5
      refine g_sub [] rfl ?_
      exact b78 w3 hX
    · have hX := if_f hX c5
      refine g_aload_n F dX6_canTake_44 1 rfl rfl ?_
      refine G_X6_26 F dX6_canTake_45 ?_
      refine g_iload_n F dX6_canTake_48 0 rfl rfl ?_
      obtain ⟨r6, w7, hc8, hX⟩ := bnd_s hX
      refine callX4_boxOver F hc8 ml_X6_330 ⟨Nat.le_of_ble_eq_true rfl, Nat.le_of_ble_eq_true rfl⟩ (Nat.le_of_ble_eq_true rfl) dX6_canTake_49 ?_
      refine g_iconst (v := (-1)) F dX6_canTake_52 (by decide) ?_
      refine g_icmp_ne (tgt := 78) F dX6_canTake_53 (by decide) (fun c9 => ?_) (fun c9 => ?_)
      · have hX := if_f hX c9
        refine g_sub [] rfl ?_
        exact b78 w7 hX
      · have hX := if_t hX c9
        refine g_iload_n F dX6_canTake_56 0 rfl rfl ?_
        refine callX6_isUnderHatch F ml_X6_297 ⟨Nat.le_of_ble_eq_true rfl, Nat.le_of_ble_eq_true rfl⟩ (Nat.le_of_ble_eq_true rfl) dX6_canTake_57 ?_
        refine g_aload_n F dX6_canTake_60 1 rfl rfl ?_
        refine G_X6_26 F dX6_canTake_61 ?_
        refine g_iload_n F dX6_canTake_64 0 rfl rfl ?_
        refine callX6_bayOf F ml_X6_283 ⟨Nat.le_of_ble_eq_true rfl, Nat.le_of_ble_eq_true rfl⟩ (Nat.le_of_ble_eq_true rfl) dX6_canTake_65 ?_
        obtain ⟨r10, w11, hc12, hX⟩ := bnd_s hX
        refine callX4_isOpen F hc12 ml_X6_271 ⟨Nat.le_of_ble_eq_true rfl, Nat.le_of_ble_eq_true rfl⟩ (Nat.le_of_ble_eq_true rfl) dX6_canTake_68 ?_
        refine g_icmp_ne (tgt := 78) F dX6_canTake_71 (by decide) (fun c13 => ?_) (fun c13 => ?_)
        · have hX := if_f hX c13
          refine g_sub [] rfl ?_
          exact b78 w11 hX
        · have hX := if_t hX c13
          refine g_iconst (v := 1) F dX6_canTake_74 (by decide) ?_
          refine g_goto (tgt := 79) F dX6_canTake_75 (by decide) ?_
          exact g_retC (wf := wC Y q) F hr rfl hlk dX6_canTake_79 hX
  · have hX := if_f hX c1
    refine g_iconst (v := 0) F dX6_canTake_15 (by decide) ?_
    exact g_retC (wf := wC Y q) F hr rfl hlk dX6_canTake_16 hX
theorem callX6_canTake {p : Program} {l : Launch} {e : Env} {R : Room} {s : State} {m : MethodId} {args : Array Value} {below : List Frame} {meth : Method} {c : Code} {D : va_G} {Y : Nat → ClassId} {A : Nat → Prop} {cc : ByteArray} {nL : Nat} {own : String} {Q : State → Prop} {pc : Nat} {lv : List (Nat × Value)} {rest : List Value} {q : Nat → Nat} {a1 a2 : Int32} {u u1 : St} {r : Int32} (F : Fx p s m args c D Y A cc nL own) (hX : pX6_canTake a1 a2 u = some (r, u1)) {index : Nat} (hml : Cond.methodLink own index yX6_canTake ∈ TBL) (hR : 3 + 1 ≤ R.frames ∧ 8 + (4 + 11) + 61 ≤ R.locals) (hcat : (rest.map fun v => v.category).sum ≤ 8) (hd : decode cc pc = .ok (.invokevirtual index, 3)) (kk : GW p l e R s m args below meth c D A nL 0 0 Q (wC Y q u1) (pc + 3) lv (.int r :: rest)) : GW p l e R s m args below meth c D A nL 0 0 Q (wC Y q u) pc lv (.int a2 :: .int a1 :: .ref (q 0) :: rest) := g_callVi (ws := wC Y q u) (n := 2) (q0 := 0) (As := [.int a1, .int a2]) F [] [] (kX6_canTake hX) (List.append_nil _).symm (List.append_nil _) (by unfold mOK; decide +kernel) rfl rfl cd_yX6_canTake hml im_yX6_canTake se_yX6_canTake in_X6 rfl rfl hR ⟨Nat.zero_le _, Nat.zero_le _⟩ rfl hcat hd kk
theorem dX6_canDo_0 : decode cX6_canDo 0 = .ok (.aload_n 0, 1) := by decide +kernel
theorem dX6_canDo_1 : decode cX6_canDo 1 = .ok (.getfield 33, 3) := by decide +kernel
theorem dX6_canDo_4 : decode cX6_canDo 4 = .ok (.getfield 347, 3) := by decide +kernel
theorem dX6_canDo_7 : decode cX6_canDo 7 = .ok (.iload_n 1, 1) := by decide +kernel
theorem dX6_canDo_8 : decode cX6_canDo 8 = .ok (.invokevirtual 81, 3) := by decide +kernel
theorem dX6_canDo_11 : decode cX6_canDo 11 = .ok (.istore_n 3, 1) := by decide +kernel
theorem dX6_canDo_12 : decode cX6_canDo 12 = .ok (.aload_n 0, 1) := by decide +kernel
theorem dX6_canDo_13 : decode cX6_canDo 13 = .ok (.getfield 33, 3) := by decide +kernel
theorem dX6_canDo_16 : decode cX6_canDo 16 = .ok (.getfield 350, 3) := by decide +kernel
theorem dX6_canDo_19 : decode cX6_canDo 19 = .ok (.iload_n 1, 1) := by decide +kernel
theorem dX6_canDo_20 : decode cX6_canDo 20 = .ok (.invokevirtual 81, 3) := by decide +kernel
theorem dX6_canDo_23 : decode cX6_canDo 23 = .ok (.istore 4, 2) := by decide +kernel
theorem dX6_canDo_25 : decode cX6_canDo 25 = .ok (.aload_n 0, 1) := by decide +kernel
theorem dX6_canDo_26 : decode cX6_canDo 26 = .ok (.getfield 33, 3) := by decide +kernel
theorem dX6_canDo_29 : decode cX6_canDo 29 = .ok (.getfield 351, 3) := by decide +kernel
theorem dX6_canDo_32 : decode cX6_canDo 32 = .ok (.iload_n 1, 1) := by decide +kernel
theorem dX6_canDo_33 : decode cX6_canDo 33 = .ok (.invokevirtual 81, 3) := by decide +kernel
theorem dX6_canDo_36 : decode cX6_canDo 36 = .ok (.tableswitch 256 0 4 #[36, 76, 122, 179, 227], 36) := by decide +kernel
theorem dX6_canDo_72 : decode cX6_canDo 72 = .ok (.aload_n 0, 1) := by decide +kernel
theorem dX6_canDo_73 : decode cX6_canDo 73 = .ok (.getfield 40, 3) := by decide +kernel
theorem dX6_canDo_76 : decode cX6_canDo 76 = .ok (.iload_n 2, 1) := by decide +kernel
theorem dX6_canDo_77 : decode cX6_canDo 77 = .ok (.iload 4, 2) := by decide +kernel
theorem dX6_canDo_79 : decode cX6_canDo 79 = .ok (.invokestatic 283, 3) := by decide +kernel
theorem dX6_canDo_82 : decode cX6_canDo 82 = .ok (.invokevirtual 354, 3) := by decide +kernel
theorem dX6_canDo_85 : decode cX6_canDo 85 = .ok (.ifCond .eq 25, 3) := by decide +kernel
theorem dX6_canDo_88 : decode cX6_canDo 88 = .ok (.aload_n 0, 1) := by decide +kernel
theorem dX6_canDo_89 : decode cX6_canDo 89 = .ok (.iload_n 3, 1) := by decide +kernel
theorem dX6_canDo_90 : decode cX6_canDo 90 = .ok (.invokevirtual 357, 3) := by decide +kernel
theorem dX6_canDo_93 : decode cX6_canDo 93 = .ok (.ifCond .eq 17, 3) := by decide +kernel
theorem dX6_canDo_96 : decode cX6_canDo 96 = .ok (.aload_n 0, 1) := by decide +kernel
theorem dX6_canDo_97 : decode cX6_canDo 97 = .ok (.iload_n 3, 1) := by decide +kernel
theorem dX6_canDo_98 : decode cX6_canDo 98 = .ok (.iload 4, 2) := by decide +kernel
theorem dX6_canDo_100 : decode cX6_canDo 100 = .ok (.invokevirtual 306, 3) := by decide +kernel
theorem dX6_canDo_103 : decode cX6_canDo 103 = .ok (.ifCond .eq 7, 3) := by decide +kernel
theorem dX6_canDo_106 : decode cX6_canDo 106 = .ok (.iconst 1, 1) := by decide +kernel
theorem dX6_canDo_107 : decode cX6_canDo 107 = .ok (.goto 4, 3) := by decide +kernel
theorem dX6_canDo_110 : decode cX6_canDo 110 = .ok (.iconst 0, 1) := by decide +kernel
theorem dX6_canDo_111 : decode cX6_canDo 111 = .ok (.ireturn, 1) := by decide +kernel
theorem dX6_canDo_112 : decode cX6_canDo 112 = .ok (.aload_n 0, 1) := by decide +kernel
theorem dX6_canDo_113 : decode cX6_canDo 113 = .ok (.iload_n 3, 1) := by decide +kernel
theorem dX6_canDo_114 : decode cX6_canDo 114 = .ok (.iload_n 2, 1) := by decide +kernel
theorem dX6_canDo_115 : decode cX6_canDo 115 = .ok (.invokevirtual 360, 3) := by decide +kernel
theorem dX6_canDo_118 : decode cX6_canDo 118 = .ok (.ifCond .eq 38, 3) := by decide +kernel
theorem dX6_canDo_121 : decode cX6_canDo 121 = .ok (.aload_n 0, 1) := by decide +kernel
theorem dX6_canDo_122 : decode cX6_canDo 122 = .ok (.getfield 10, 3) := by decide +kernel
theorem dX6_canDo_125 : decode cX6_canDo 125 = .ok (.iload_n 3, 1) := by decide +kernel
theorem dX6_canDo_126 : decode cX6_canDo 126 = .ok (.invokevirtual 197, 3) := by decide +kernel
theorem dX6_canDo_129 : decode cX6_canDo 129 = .ok (.ifCond .ne 27, 3) := by decide +kernel
theorem dX6_canDo_132 : decode cX6_canDo 132 = .ok (.aload_n 0, 1) := by decide +kernel
theorem dX6_canDo_133 : decode cX6_canDo 133 = .ok (.aload_n 0, 1) := by decide +kernel
theorem dX6_canDo_134 : decode cX6_canDo 134 = .ok (.getfield 10, 3) := by decide +kernel
theorem dX6_canDo_137 : decode cX6_canDo 137 = .ok (.getfield 258, 3) := by decide +kernel
theorem dX6_canDo_140 : decode cX6_canDo 140 = .ok (.iload_n 3, 1) := by decide +kernel
theorem dX6_canDo_141 : decode cX6_canDo 141 = .ok (.invokevirtual 81, 3) := by decide +kernel
theorem dX6_canDo_144 : decode cX6_canDo 144 = .ok (.iload 4, 2) := by decide +kernel
theorem dX6_canDo_146 : decode cX6_canDo 146 = .ok (.invokevirtual 174, 3) := by decide +kernel
theorem dX6_canDo_149 : decode cX6_canDo 149 = .ok (.ifCond .eq 7, 3) := by decide +kernel
theorem dX6_canDo_152 : decode cX6_canDo 152 = .ok (.iconst 1, 1) := by decide +kernel
theorem dX6_canDo_153 : decode cX6_canDo 153 = .ok (.goto 4, 3) := by decide +kernel
theorem dX6_canDo_156 : decode cX6_canDo 156 = .ok (.iconst 0, 1) := by decide +kernel
theorem dX6_canDo_157 : decode cX6_canDo 157 = .ok (.ireturn, 1) := by decide +kernel
theorem dX6_canDo_158 : decode cX6_canDo 158 = .ok (.aload_n 0, 1) := by decide +kernel
theorem dX6_canDo_159 : decode cX6_canDo 159 = .ok (.getfield 40, 3) := by decide +kernel
theorem dX6_canDo_162 : decode cX6_canDo 162 = .ok (.iload_n 2, 1) := by decide +kernel
theorem dX6_canDo_163 : decode cX6_canDo 163 = .ok (.iload 4, 2) := by decide +kernel
theorem dX6_canDo_165 : decode cX6_canDo 165 = .ok (.invokestatic 283, 3) := by decide +kernel
theorem dX6_canDo_168 : decode cX6_canDo 168 = .ok (.invokevirtual 354, 3) := by decide +kernel
theorem dX6_canDo_171 : decode cX6_canDo 171 = .ok (.ifCond .eq 42, 3) := by decide +kernel
theorem dX6_canDo_174 : decode cX6_canDo 174 = .ok (.aload_n 0, 1) := by decide +kernel
theorem dX6_canDo_175 : decode cX6_canDo 175 = .ok (.iload_n 3, 1) := by decide +kernel
theorem dX6_canDo_176 : decode cX6_canDo 176 = .ok (.iload_n 2, 1) := by decide +kernel
theorem dX6_canDo_177 : decode cX6_canDo 177 = .ok (.invokevirtual 360, 3) := by decide +kernel
theorem dX6_canDo_180 : decode cX6_canDo 180 = .ok (.ifCond .eq 33, 3) := by decide +kernel
theorem dX6_canDo_183 : decode cX6_canDo 183 = .ok (.aload_n 0, 1) := by decide +kernel
theorem dX6_canDo_184 : decode cX6_canDo 184 = .ok (.getfield 10, 3) := by decide +kernel
theorem dX6_canDo_187 : decode cX6_canDo 187 = .ok (.getfield 261, 3) := by decide +kernel
theorem dX6_canDo_190 : decode cX6_canDo 190 = .ok (.iload_n 3, 1) := by decide +kernel
theorem dX6_canDo_191 : decode cX6_canDo 191 = .ok (.invokevirtual 81, 3) := by decide +kernel
theorem dX6_canDo_194 : decode cX6_canDo 194 = .ok (.iload 4, 2) := by decide +kernel
theorem dX6_canDo_196 : decode cX6_canDo 196 = .ok (.if_icmp .eq 17, 3) := by decide +kernel
theorem dX6_canDo_199 : decode cX6_canDo 199 = .ok (.aload_n 0, 1) := by decide +kernel
theorem dX6_canDo_200 : decode cX6_canDo 200 = .ok (.iload_n 3, 1) := by decide +kernel
theorem dX6_canDo_201 : decode cX6_canDo 201 = .ok (.iload 4, 2) := by decide +kernel
theorem dX6_canDo_203 : decode cX6_canDo 203 = .ok (.invokevirtual 306, 3) := by decide +kernel
theorem dX6_canDo_206 : decode cX6_canDo 206 = .ok (.ifCond .eq 7, 3) := by decide +kernel
theorem dX6_canDo_209 : decode cX6_canDo 209 = .ok (.iconst 1, 1) := by decide +kernel
theorem dX6_canDo_210 : decode cX6_canDo 210 = .ok (.goto 4, 3) := by decide +kernel
theorem dX6_canDo_213 : decode cX6_canDo 213 = .ok (.iconst 0, 1) := by decide +kernel
theorem dX6_canDo_214 : decode cX6_canDo 214 = .ok (.ireturn, 1) := by decide +kernel
theorem dX6_canDo_215 : decode cX6_canDo 215 = .ok (.aload_n 0, 1) := by decide +kernel
theorem dX6_canDo_216 : decode cX6_canDo 216 = .ok (.getfield 40, 3) := by decide +kernel
theorem dX6_canDo_219 : decode cX6_canDo 219 = .ok (.iload_n 2, 1) := by decide +kernel
theorem dX6_canDo_220 : decode cX6_canDo 220 = .ok (.iload_n 3, 1) := by decide +kernel
theorem dX6_canDo_221 : decode cX6_canDo 221 = .ok (.invokevirtual 354, 3) := by decide +kernel
theorem dX6_canDo_224 : decode cX6_canDo 224 = .ok (.ifCond .eq 37, 3) := by decide +kernel
theorem dX6_canDo_227 : decode cX6_canDo 227 = .ok (.aload_n 0, 1) := by decide +kernel
theorem dX6_canDo_228 : decode cX6_canDo 228 = .ok (.getfield 26, 3) := by decide +kernel
theorem dX6_canDo_231 : decode cX6_canDo 231 = .ok (.iload_n 3, 1) := by decide +kernel
theorem dX6_canDo_232 : decode cX6_canDo 232 = .ok (.invokevirtual 271, 3) := by decide +kernel
theorem dX6_canDo_235 : decode cX6_canDo 235 = .ok (.ifCond .ne 26, 3) := by decide +kernel
theorem dX6_canDo_238 : decode cX6_canDo 238 = .ok (.aload_n 0, 1) := by decide +kernel
theorem dX6_canDo_239 : decode cX6_canDo 239 = .ok (.iload_n 3, 1) := by decide +kernel
theorem dX6_canDo_240 : decode cX6_canDo 240 = .ok (.invokevirtual 274, 3) := by decide +kernel
theorem dX6_canDo_243 : decode cX6_canDo 243 = .ok (.ifCond .ne 18, 3) := by decide +kernel
theorem dX6_canDo_246 : decode cX6_canDo 246 = .ok (.aload_n 0, 1) := by decide +kernel
theorem dX6_canDo_247 : decode cX6_canDo 247 = .ok (.getfield 26, 3) := by decide +kernel
theorem dX6_canDo_250 : decode cX6_canDo 250 = .ok (.iload_n 3, 1) := by decide +kernel
theorem dX6_canDo_251 : decode cX6_canDo 251 = .ok (.invokevirtual 300, 3) := by decide +kernel
theorem dX6_canDo_254 : decode cX6_canDo 254 = .ok (.ifCond .ne 7, 3) := by decide +kernel
theorem dX6_canDo_257 : decode cX6_canDo 257 = .ok (.iconst 1, 1) := by decide +kernel
theorem dX6_canDo_258 : decode cX6_canDo 258 = .ok (.goto 4, 3) := by decide +kernel
theorem dX6_canDo_261 : decode cX6_canDo 261 = .ok (.iconst 0, 1) := by decide +kernel
theorem dX6_canDo_262 : decode cX6_canDo 262 = .ok (.ireturn, 1) := by decide +kernel
theorem dX6_canDo_263 : decode cX6_canDo 263 = .ok (.aload_n 0, 1) := by decide +kernel
theorem dX6_canDo_264 : decode cX6_canDo 264 = .ok (.getfield 40, 3) := by decide +kernel
theorem dX6_canDo_267 : decode cX6_canDo 267 = .ok (.iload_n 2, 1) := by decide +kernel
theorem dX6_canDo_268 : decode cX6_canDo 268 = .ok (.iload_n 3, 1) := by decide +kernel
theorem dX6_canDo_269 : decode cX6_canDo 269 = .ok (.invokevirtual 354, 3) := by decide +kernel
theorem dX6_canDo_272 : decode cX6_canDo 272 = .ok (.ifCond .eq 18, 3) := by decide +kernel
theorem dX6_canDo_275 : decode cX6_canDo 275 = .ok (.aload_n 0, 1) := by decide +kernel
theorem dX6_canDo_276 : decode cX6_canDo 276 = .ok (.getfield 26, 3) := by decide +kernel
theorem dX6_canDo_279 : decode cX6_canDo 279 = .ok (.iload_n 3, 1) := by decide +kernel
theorem dX6_canDo_280 : decode cX6_canDo 280 = .ok (.invokevirtual 271, 3) := by decide +kernel
theorem dX6_canDo_283 : decode cX6_canDo 283 = .ok (.ifCond .eq 7, 3) := by decide +kernel
theorem dX6_canDo_286 : decode cX6_canDo 286 = .ok (.iconst 1, 1) := by decide +kernel
theorem dX6_canDo_287 : decode cX6_canDo 287 = .ok (.goto 4, 3) := by decide +kernel
theorem dX6_canDo_290 : decode cX6_canDo 290 = .ok (.iconst 0, 1) := by decide +kernel
theorem dX6_canDo_291 : decode cX6_canDo 291 = .ok (.ireturn, 1) := by decide +kernel
theorem dX6_canDo_292 : decode cX6_canDo 292 = .ok (.iconst 0, 1) := by decide +kernel
theorem dX6_canDo_293 : decode cX6_canDo 293 = .ok (.ireturn, 1) := by decide +kernel
def pX6_canDo_b110   (v : St) : Option (Int32 × St) := some (0, v)
def pX6_canDo_b156   (v : St) : Option (Int32 × St) := some (0, v)
def pX6_canDo_b213   (v : St) : Option (Int32 × St) := some (0, v)
def pX6_canDo_b261   (v : St) : Option (Int32 × St) := some (0, v)
def pX6_canDo_b290   (v : St) : Option (Int32 × St) := some (0, v)
def pX6_canDo (a1 : Int32) (a2 : Int32) (u : St) : Option (Int32 × St) := if rg u 15 a1 = 0 then (bnd (pX1_reaches a2 (pX6_bayOf (rg u 17 a1)) u) (fun r1 w2 => if r1 = 0 then (pX6_canDo_b110 w2) else (bnd (pX6_canLoad (rg u 16 a1) w2) (fun r5 w6 => if r5 = 0 then (pX6_canDo_b110 w6) else (bnd (pX6_mayBeIn (rg u 16 a1) (rg u 17 a1) w6) (fun r9 w10 => if r9 = 0 then (pX6_canDo_b110 w10) else (some (1, w10)))))))) else (if rg u 15 a1 = 1 then (bnd (pX6_canTake (rg u 16 a1) a2 u) (fun r14 w15 => if r14 = 0 then (pX6_canDo_b156 w15) else (bnd (pX0_isHeld (rg u 16 a1) w15) (fun r18 w19 => if r18 = 0 then (bnd (pX6_mayBeStacked (rg w19 0 (rg u 16 a1)) (rg u 17 a1) w19) (fun r22 w23 => if r22 = 0 then (pX6_canDo_b156 w23) else (some (1, w23)))) else (pX6_canDo_b156 w19))))) else (if rg u 15 a1 = 2 then (bnd (pX1_reaches a2 (pX6_bayOf (rg u 17 a1)) u) (fun r27 w28 => if r27 = 0 then (pX6_canDo_b213 w28) else (bnd (pX6_canTake (rg u 16 a1) a2 w28) (fun r31 w32 => if r31 = 0 then (pX6_canDo_b213 w32) else (if (rg w32 6 (rg u 16 a1)) = (rg u 17 a1) then (pX6_canDo_b213 w32) else (bnd (pX6_mayBeIn (rg u 16 a1) (rg u 17 a1) w32) (fun r36 w37 => if r36 = 0 then (pX6_canDo_b213 w37) else (some (1, w37))))))))) else (if rg u 15 a1 = 3 then (bnd (pX1_reaches a2 (rg u 16 a1) u) (fun r41 w42 => if r41 = 0 then (pX6_canDo_b261 w42) else (bnd (pX4_isOpen (rg u 16 a1) w42) (fun r45 w46 => if r45 = 0 then (bnd (pX6_isJammed (rg u 16 a1) w46) (fun r49 w50 => if r49 = 0 then (bnd (pX4_boxesOnTop (rg u 16 a1) w50) (fun r53 w54 => if r53 = 0 then (some (1, w54)) else (pX6_canDo_b261 w54))) else (pX6_canDo_b261 w50))) else (pX6_canDo_b261 w46))))) else (if rg u 15 a1 = 4 then (bnd (pX1_reaches a2 (rg u 16 a1) u) (fun r58 w59 => if r58 = 0 then (pX6_canDo_b290 w59) else (bnd (pX4_isOpen (rg u 16 a1) w59) (fun r62 w63 => if r62 = 0 then (pX6_canDo_b290 w63) else (some (1, w63)))))) else (some (0, u))))))
set_option maxHeartbeats 4000000 in
set_option maxRecDepth 20000 in
theorem kX6_canDo {l : Launch} {D : va_G} {Y : Nat → ClassId} {q : Nat → Nat} {a1 a2 : Int32} {u u1 : St} {r : Int32} (hX : pX6_canDo a1 a2 u = some (r, u1)) : CMi l yX6_canDo cX6_canDo 5 (some .boolean) 4 84 D Y (wC Y q u) (wC Y q u1) [.ref (q 0), .int a1, .int a2] r := by
  refine cm_ofi (by decide) (Nat.le_of_ble_eq_true rfl) rfl (fun p e s m args below meth c A F hr hlk => ?_)
  show GW p l e { frames := 4, cells := 0, slots := 0, locals := 84 } s m args below meth c D A 5 0 0 (MQ below (QI D (wC Y q u1) r A) args s 0 0 A) (wC Y q u) 0 [(0, .ref (q 0)), (1, .int a1), (2, .int a2)] []
  have b110 : ∀   (v : St), pX6_canDo_b110  v = some (r, u1) → GW p l e { frames := 4, cells := 0, slots := 0, locals := 84 } s m args below meth c D A 5 0 0 (MQ below (QI D (wC Y q u1) r A) args s 0 0 A) (wC Y q v) 110 [] [] := by
    intro  v hX
    have hX : (some (0, v)) = some (r, u1) := hX
    refine g_iconst (v := 0) F dX6_canDo_110 (by decide) ?_
    exact g_retC (wf := wC Y q) F hr rfl hlk dX6_canDo_111 hX
  have b156 : ∀   (v : St), pX6_canDo_b156  v = some (r, u1) → GW p l e { frames := 4, cells := 0, slots := 0, locals := 84 } s m args below meth c D A 5 0 0 (MQ below (QI D (wC Y q u1) r A) args s 0 0 A) (wC Y q v) 156 [] [] := by
    intro  v hX
    have hX : (some (0, v)) = some (r, u1) := hX
    refine g_iconst (v := 0) F dX6_canDo_156 (by decide) ?_
    exact g_retC (wf := wC Y q) F hr rfl hlk dX6_canDo_157 hX
  have b213 : ∀   (v : St), pX6_canDo_b213  v = some (r, u1) → GW p l e { frames := 4, cells := 0, slots := 0, locals := 84 } s m args below meth c D A 5 0 0 (MQ below (QI D (wC Y q u1) r A) args s 0 0 A) (wC Y q v) 213 [] [] := by
    intro  v hX
    have hX : (some (0, v)) = some (r, u1) := hX
    refine g_iconst (v := 0) F dX6_canDo_213 (by decide) ?_
    exact g_retC (wf := wC Y q) F hr rfl hlk dX6_canDo_214 hX
  have b261 : ∀   (v : St), pX6_canDo_b261  v = some (r, u1) → GW p l e { frames := 4, cells := 0, slots := 0, locals := 84 } s m args below meth c D A 5 0 0 (MQ below (QI D (wC Y q u1) r A) args s 0 0 A) (wC Y q v) 261 [] [] := by
    intro  v hX
    have hX : (some (0, v)) = some (r, u1) := hX
    refine g_iconst (v := 0) F dX6_canDo_261 (by decide) ?_
    exact g_retC (wf := wC Y q) F hr rfl hlk dX6_canDo_262 hX
  have b290 : ∀   (v : St), pX6_canDo_b290  v = some (r, u1) → GW p l e { frames := 4, cells := 0, slots := 0, locals := 84 } s m args below meth c D A 5 0 0 (MQ below (QI D (wC Y q u1) r A) args s 0 0 A) (wC Y q v) 290 [] [] := by
    intro  v hX
    have hX : (some (0, v)) = some (r, u1) := hX
    refine g_iconst (v := 0) F dX6_canDo_290 (by decide) ?_
    exact g_retC (wf := wC Y q) F hr rfl hlk dX6_canDo_291 hX
  have hX : (if rg u 15 a1 = 0 then (bnd (pX1_reaches a2 (pX6_bayOf (rg u 17 a1)) u) (fun r1 w2 => if r1 = 0 then (pX6_canDo_b110 w2) else (bnd (pX6_canLoad (rg u 16 a1) w2) (fun r5 w6 => if r5 = 0 then (pX6_canDo_b110 w6) else (bnd (pX6_mayBeIn (rg u 16 a1) (rg u 17 a1) w6) (fun r9 w10 => if r9 = 0 then (pX6_canDo_b110 w10) else (some (1, w10)))))))) else (if rg u 15 a1 = 1 then (bnd (pX6_canTake (rg u 16 a1) a2 u) (fun r14 w15 => if r14 = 0 then (pX6_canDo_b156 w15) else (bnd (pX0_isHeld (rg u 16 a1) w15) (fun r18 w19 => if r18 = 0 then (bnd (pX6_mayBeStacked (rg w19 0 (rg u 16 a1)) (rg u 17 a1) w19) (fun r22 w23 => if r22 = 0 then (pX6_canDo_b156 w23) else (some (1, w23)))) else (pX6_canDo_b156 w19))))) else (if rg u 15 a1 = 2 then (bnd (pX1_reaches a2 (pX6_bayOf (rg u 17 a1)) u) (fun r27 w28 => if r27 = 0 then (pX6_canDo_b213 w28) else (bnd (pX6_canTake (rg u 16 a1) a2 w28) (fun r31 w32 => if r31 = 0 then (pX6_canDo_b213 w32) else (if (rg w32 6 (rg u 16 a1)) = (rg u 17 a1) then (pX6_canDo_b213 w32) else (bnd (pX6_mayBeIn (rg u 16 a1) (rg u 17 a1) w32) (fun r36 w37 => if r36 = 0 then (pX6_canDo_b213 w37) else (some (1, w37))))))))) else (if rg u 15 a1 = 3 then (bnd (pX1_reaches a2 (rg u 16 a1) u) (fun r41 w42 => if r41 = 0 then (pX6_canDo_b261 w42) else (bnd (pX4_isOpen (rg u 16 a1) w42) (fun r45 w46 => if r45 = 0 then (bnd (pX6_isJammed (rg u 16 a1) w46) (fun r49 w50 => if r49 = 0 then (bnd (pX4_boxesOnTop (rg u 16 a1) w50) (fun r53 w54 => if r53 = 0 then (some (1, w54)) else (pX6_canDo_b261 w54))) else (pX6_canDo_b261 w50))) else (pX6_canDo_b261 w46))))) else (if rg u 15 a1 = 4 then (bnd (pX1_reaches a2 (rg u 16 a1) u) (fun r58 w59 => if r58 = 0 then (pX6_canDo_b290 w59) else (bnd (pX4_isOpen (rg u 16 a1) w59) (fun r62 w63 => if r62 = 0 then (pX6_canDo_b290 w63) else (some (1, w63)))))) else (some (0, u))))))) = some (r, u1) := hX
  refine g_aload_n F dX6_canDo_0 0 rfl rfl ?_
  refine G_X6_33 F dX6_canDo_1 ?_
  refine G_X6_347 F dX6_canDo_4 ?_
  refine g_iload_n F dX6_canDo_7 1 rfl rfl ?_
  refine C_rget F 16 (by decide) ml_X6_81 ⟨Nat.le_of_ble_eq_true rfl, Nat.le_of_ble_eq_true rfl⟩ (Nat.le_of_ble_eq_true rfl) dX6_canDo_8 ?_
  refine g_istore_n (lv' := [(3, .int (rg u 16 a1)), (0, .ref (q 0)), (1, .int a1), (2, .int a2)]) F dX6_canDo_11 rfl (by decide) rfl ?_
  refine g_aload_n F dX6_canDo_12 1 rfl rfl ?_
  refine G_X6_33 F dX6_canDo_13 ?_
  refine G_X6_350 F dX6_canDo_16 ?_
  refine g_iload_n F dX6_canDo_19 2 rfl rfl ?_
  refine C_rget F 17 (by decide) ml_X6_81 ⟨Nat.le_of_ble_eq_true rfl, Nat.le_of_ble_eq_true rfl⟩ (Nat.le_of_ble_eq_true rfl) dX6_canDo_20 ?_
  refine g_istore (lv' := [(4, .int (rg u 17 a1)), (3, .int (rg u 16 a1)), (0, .ref (q 0)), (1, .int a1), (2, .int a2)]) F dX6_canDo_23 (by decide) rfl ?_
  refine g_aload_n F dX6_canDo_25 2 rfl rfl ?_
  refine G_X6_33 F dX6_canDo_26 ?_
  refine G_X6_351 F dX6_canDo_29 ?_
  refine g_iload_n F dX6_canDo_32 3 rfl rfl ?_
  refine C_rget F 15 (by decide) ml_X6_81 ⟨Nat.le_of_ble_eq_true rfl, Nat.le_of_ble_eq_true rfl⟩ (Nat.le_of_ble_eq_true rfl) dX6_canDo_33 ?_
  by_cases c13 : rg u 15 a1 = 0
  · have hX := if_t hX c13
    refine g_tabIn (tgt := 72) F dX6_canDo_36 (by rw [c13]; decide) (by rw [c13]; decide) (by rw [c13]; rfl) (by decide) ?_
    refine g_aload_n F dX6_canDo_72 2 rfl rfl ?_
    refine G_X6_40 F dX6_canDo_73 ?_
    refine g_iload_n F dX6_canDo_76 4 rfl rfl ?_
    refine g_iload F dX6_canDo_77 0 rfl ?_
    refine callX6_bayOf F ml_X6_283 ⟨Nat.le_of_ble_eq_true rfl, Nat.le_of_ble_eq_true rfl⟩ (Nat.le_of_ble_eq_true rfl) dX6_canDo_79 ?_
    obtain ⟨r1, w2, hc3, hX⟩ := bnd_s hX
    refine callX1_reaches F hc3 ml_X6_354 ⟨Nat.le_of_ble_eq_true rfl, Nat.le_of_ble_eq_true rfl⟩ (Nat.le_of_ble_eq_true rfl) dX6_canDo_82 ?_
    refine g_if_eq (tgt := 110) F dX6_canDo_85 (by decide) (fun c4 => ?_) (fun c4 => ?_)
    · have hX := if_t hX c4
      refine g_sub [] rfl ?_
      exact b110 w2 hX
    · have hX := if_f hX c4
      refine g_aload_n F dX6_canDo_88 2 rfl rfl ?_
      refine g_iload_n F dX6_canDo_89 1 rfl rfl ?_
      obtain ⟨r5, w6, hc7, hX⟩ := bnd_s hX
      refine callX6_canLoad F hc7 ml_X6_357 ⟨Nat.le_of_ble_eq_true rfl, Nat.le_of_ble_eq_true rfl⟩ (Nat.le_of_ble_eq_true rfl) dX6_canDo_90 ?_
      refine g_if_eq (tgt := 110) F dX6_canDo_93 (by decide) (fun c8 => ?_) (fun c8 => ?_)
      · have hX := if_t hX c8
        refine g_sub [] rfl ?_
        exact b110 w6 hX
      · have hX := if_f hX c8
        refine g_aload_n F dX6_canDo_96 2 rfl rfl ?_
        refine g_iload_n F dX6_canDo_97 1 rfl rfl ?_
        refine g_iload F dX6_canDo_98 0 rfl ?_
        obtain ⟨r9, w10, hc11, hX⟩ := bnd_s hX
        refine callX6_mayBeIn F hc11 ml_X6_306 ⟨Nat.le_of_ble_eq_true rfl, Nat.le_of_ble_eq_true rfl⟩ (Nat.le_of_ble_eq_true rfl) dX6_canDo_100 ?_
        refine g_if_eq (tgt := 110) F dX6_canDo_103 (by decide) (fun c12 => ?_) (fun c12 => ?_)
        · have hX := if_t hX c12
          refine g_sub [] rfl ?_
          exact b110 w10 hX
        · have hX := if_f hX c12
          refine g_iconst (v := 1) F dX6_canDo_106 (by decide) ?_
          refine g_goto (tgt := 111) F dX6_canDo_107 (by decide) ?_
          exact g_retC (wf := wC Y q) F hr rfl hlk dX6_canDo_111 hX
  have hX := if_f hX c13
  by_cases c26 : rg u 15 a1 = 1
  · have hX := if_t hX c26
    refine g_tabIn (tgt := 112) F dX6_canDo_36 (by rw [c26]; decide) (by rw [c26]; decide) (by rw [c26]; rfl) (by decide) ?_
    refine g_aload_n F dX6_canDo_112 2 rfl rfl ?_
    refine g_iload_n F dX6_canDo_113 1 rfl rfl ?_
    refine g_iload_n F dX6_canDo_114 4 rfl rfl ?_
    obtain ⟨r14, w15, hc16, hX⟩ := bnd_s hX
    refine callX6_canTake F hc16 ml_X6_360 ⟨Nat.le_of_ble_eq_true rfl, Nat.le_of_ble_eq_true rfl⟩ (Nat.le_of_ble_eq_true rfl) dX6_canDo_115 ?_
    refine g_if_eq (tgt := 156) F dX6_canDo_118 (by decide) (fun c17 => ?_) (fun c17 => ?_)
    · have hX := if_t hX c17
      refine g_sub [] rfl ?_
      exact b156 w15 hX
    · have hX := if_f hX c17
      refine g_aload_n F dX6_canDo_121 2 rfl rfl ?_
      refine G_X6_10 F dX6_canDo_122 ?_
      refine g_iload_n F dX6_canDo_125 1 rfl rfl ?_
      obtain ⟨r18, w19, hc20, hX⟩ := bnd_s hX
      refine callX0_isHeld F hc20 ml_X6_197 ⟨Nat.le_of_ble_eq_true rfl, Nat.le_of_ble_eq_true rfl⟩ (Nat.le_of_ble_eq_true rfl) dX6_canDo_126 ?_
      refine g_if_ne (tgt := 156) F dX6_canDo_129 (by decide) (fun c21 => ?_) (fun c21 => ?_)
      · have hX := if_f hX c21
        refine g_sub [] rfl ?_
        exact b156 w19 hX
      · have hX := if_t hX c21
        refine g_aload_n F dX6_canDo_132 2 rfl rfl ?_
        refine g_aload_n F dX6_canDo_133 2 rfl rfl ?_
        refine G_X6_10 F dX6_canDo_134 ?_
        refine G_X6_258 F dX6_canDo_137 ?_
        refine g_iload_n F dX6_canDo_140 1 rfl rfl ?_
        refine C_rget F 0 (by decide) ml_X6_81 ⟨Nat.le_of_ble_eq_true rfl, Nat.le_of_ble_eq_true rfl⟩ (Nat.le_of_ble_eq_true rfl) dX6_canDo_141 ?_
        refine g_iload F dX6_canDo_144 0 rfl ?_
        obtain ⟨r22, w23, hc24, hX⟩ := bnd_s hX
        refine callX6_mayBeStacked F hc24 ml_X6_174 ⟨Nat.le_of_ble_eq_true rfl, Nat.le_of_ble_eq_true rfl⟩ (Nat.le_of_ble_eq_true rfl) dX6_canDo_146 ?_
        refine g_if_eq (tgt := 156) F dX6_canDo_149 (by decide) (fun c25 => ?_) (fun c25 => ?_)
        · have hX := if_t hX c25
          refine g_sub [] rfl ?_
          exact b156 w23 hX
        · have hX := if_f hX c25
          refine g_iconst (v := 1) F dX6_canDo_152 (by decide) ?_
          refine g_goto (tgt := 157) F dX6_canDo_153 (by decide) ?_
          exact g_retC (wf := wC Y q) F hr rfl hlk dX6_canDo_157 hX
  have hX := if_f hX c26
  by_cases c40 : rg u 15 a1 = 2
  · have hX := if_t hX c40
    refine g_tabIn (tgt := 158) F dX6_canDo_36 (by rw [c40]; decide) (by rw [c40]; decide) (by rw [c40]; rfl) (by decide) ?_
    refine g_aload_n F dX6_canDo_158 2 rfl rfl ?_
    refine G_X6_40 F dX6_canDo_159 ?_
    refine g_iload_n F dX6_canDo_162 4 rfl rfl ?_
    refine g_iload F dX6_canDo_163 0 rfl ?_
    refine callX6_bayOf F ml_X6_283 ⟨Nat.le_of_ble_eq_true rfl, Nat.le_of_ble_eq_true rfl⟩ (Nat.le_of_ble_eq_true rfl) dX6_canDo_165 ?_
    obtain ⟨r27, w28, hc29, hX⟩ := bnd_s hX
    refine callX1_reaches F hc29 ml_X6_354 ⟨Nat.le_of_ble_eq_true rfl, Nat.le_of_ble_eq_true rfl⟩ (Nat.le_of_ble_eq_true rfl) dX6_canDo_168 ?_
    refine g_if_eq (tgt := 213) F dX6_canDo_171 (by decide) (fun c30 => ?_) (fun c30 => ?_)
    · have hX := if_t hX c30
      refine g_sub [] rfl ?_
      exact b213 w28 hX
    · have hX := if_f hX c30
      refine g_aload_n F dX6_canDo_174 2 rfl rfl ?_
      refine g_iload_n F dX6_canDo_175 1 rfl rfl ?_
      refine g_iload_n F dX6_canDo_176 4 rfl rfl ?_
      obtain ⟨r31, w32, hc33, hX⟩ := bnd_s hX
      refine callX6_canTake F hc33 ml_X6_360 ⟨Nat.le_of_ble_eq_true rfl, Nat.le_of_ble_eq_true rfl⟩ (Nat.le_of_ble_eq_true rfl) dX6_canDo_177 ?_
      refine g_if_eq (tgt := 213) F dX6_canDo_180 (by decide) (fun c34 => ?_) (fun c34 => ?_)
      · have hX := if_t hX c34
        refine g_sub [] rfl ?_
        exact b213 w32 hX
      · have hX := if_f hX c34
        refine g_aload_n F dX6_canDo_183 2 rfl rfl ?_
        refine G_X6_10 F dX6_canDo_184 ?_
        refine G_X6_261 F dX6_canDo_187 ?_
        refine g_iload_n F dX6_canDo_190 1 rfl rfl ?_
        refine C_rget F 6 (by decide) ml_X6_81 ⟨Nat.le_of_ble_eq_true rfl, Nat.le_of_ble_eq_true rfl⟩ (Nat.le_of_ble_eq_true rfl) dX6_canDo_191 ?_
        refine g_iload F dX6_canDo_194 0 rfl ?_
        refine g_icmp_eq (tgt := 213) F dX6_canDo_196 (by decide) (fun c35 => ?_) (fun c35 => ?_)
        · have hX := if_t hX c35
          refine g_sub [] rfl ?_
          exact b213 w32 hX
        · have hX := if_f hX c35
          refine g_aload_n F dX6_canDo_199 2 rfl rfl ?_
          refine g_iload_n F dX6_canDo_200 1 rfl rfl ?_
          refine g_iload F dX6_canDo_201 0 rfl ?_
          obtain ⟨r36, w37, hc38, hX⟩ := bnd_s hX
          refine callX6_mayBeIn F hc38 ml_X6_306 ⟨Nat.le_of_ble_eq_true rfl, Nat.le_of_ble_eq_true rfl⟩ (Nat.le_of_ble_eq_true rfl) dX6_canDo_203 ?_
          refine g_if_eq (tgt := 213) F dX6_canDo_206 (by decide) (fun c39 => ?_) (fun c39 => ?_)
          · have hX := if_t hX c39
            refine g_sub [] rfl ?_
            exact b213 w37 hX
          · have hX := if_f hX c39
            refine g_iconst (v := 1) F dX6_canDo_209 (by decide) ?_
            refine g_goto (tgt := 214) F dX6_canDo_210 (by decide) ?_
            exact g_retC (wf := wC Y q) F hr rfl hlk dX6_canDo_214 hX
  have hX := if_f hX c40
  by_cases c57 : rg u 15 a1 = 3
  · have hX := if_t hX c57
    refine g_tabIn (tgt := 215) F dX6_canDo_36 (by rw [c57]; decide) (by rw [c57]; decide) (by rw [c57]; rfl) (by decide) ?_
    refine g_aload_n F dX6_canDo_215 2 rfl rfl ?_
    refine G_X6_40 F dX6_canDo_216 ?_
    refine g_iload_n F dX6_canDo_219 4 rfl rfl ?_
    refine g_iload_n F dX6_canDo_220 1 rfl rfl ?_
    obtain ⟨r41, w42, hc43, hX⟩ := bnd_s hX
    refine callX1_reaches F hc43 ml_X6_354 ⟨Nat.le_of_ble_eq_true rfl, Nat.le_of_ble_eq_true rfl⟩ (Nat.le_of_ble_eq_true rfl) dX6_canDo_221 ?_
    refine g_if_eq (tgt := 261) F dX6_canDo_224 (by decide) (fun c44 => ?_) (fun c44 => ?_)
    · have hX := if_t hX c44
      refine g_sub [] rfl ?_
      exact b261 w42 hX
    · have hX := if_f hX c44
      refine g_aload_n F dX6_canDo_227 2 rfl rfl ?_
      refine G_X6_26 F dX6_canDo_228 ?_
      refine g_iload_n F dX6_canDo_231 1 rfl rfl ?_
      obtain ⟨r45, w46, hc47, hX⟩ := bnd_s hX
      refine callX4_isOpen F hc47 ml_X6_271 ⟨Nat.le_of_ble_eq_true rfl, Nat.le_of_ble_eq_true rfl⟩ (Nat.le_of_ble_eq_true rfl) dX6_canDo_232 ?_
      refine g_if_ne (tgt := 261) F dX6_canDo_235 (by decide) (fun c48 => ?_) (fun c48 => ?_)
      · have hX := if_f hX c48
        refine g_sub [] rfl ?_
        exact b261 w46 hX
      · have hX := if_t hX c48
        refine g_aload_n F dX6_canDo_238 2 rfl rfl ?_
        refine g_iload_n F dX6_canDo_239 1 rfl rfl ?_
        obtain ⟨r49, w50, hc51, hX⟩ := bnd_s hX
        refine callX6_isJammed F hc51 ml_X6_274 ⟨Nat.le_of_ble_eq_true rfl, Nat.le_of_ble_eq_true rfl⟩ (Nat.le_of_ble_eq_true rfl) dX6_canDo_240 ?_
        refine g_if_ne (tgt := 261) F dX6_canDo_243 (by decide) (fun c52 => ?_) (fun c52 => ?_)
        · have hX := if_f hX c52
          refine g_sub [] rfl ?_
          exact b261 w50 hX
        · have hX := if_t hX c52
          refine g_aload_n F dX6_canDo_246 2 rfl rfl ?_
          refine G_X6_26 F dX6_canDo_247 ?_
          refine g_iload_n F dX6_canDo_250 1 rfl rfl ?_
          obtain ⟨r53, w54, hc55, hX⟩ := bnd_s hX
          refine callX4_boxesOnTop F hc55 ml_X6_300 ⟨Nat.le_of_ble_eq_true rfl, Nat.le_of_ble_eq_true rfl⟩ (Nat.le_of_ble_eq_true rfl) dX6_canDo_251 ?_
          refine g_if_ne (tgt := 261) F dX6_canDo_254 (by decide) (fun c56 => ?_) (fun c56 => ?_)
          · have hX := if_f hX c56
            refine g_sub [] rfl ?_
            exact b261 w54 hX
          · have hX := if_t hX c56
            refine g_iconst (v := 1) F dX6_canDo_257 (by decide) ?_
            refine g_goto (tgt := 262) F dX6_canDo_258 (by decide) ?_
            exact g_retC (wf := wC Y q) F hr rfl hlk dX6_canDo_262 hX
  have hX := if_f hX c57
  by_cases c66 : rg u 15 a1 = 4
  · have hX := if_t hX c66
    refine g_tabIn (tgt := 263) F dX6_canDo_36 (by rw [c66]; decide) (by rw [c66]; decide) (by rw [c66]; rfl) (by decide) ?_
    refine g_aload_n F dX6_canDo_263 2 rfl rfl ?_
    refine G_X6_40 F dX6_canDo_264 ?_
    refine g_iload_n F dX6_canDo_267 4 rfl rfl ?_
    refine g_iload_n F dX6_canDo_268 1 rfl rfl ?_
    obtain ⟨r58, w59, hc60, hX⟩ := bnd_s hX
    refine callX1_reaches F hc60 ml_X6_354 ⟨Nat.le_of_ble_eq_true rfl, Nat.le_of_ble_eq_true rfl⟩ (Nat.le_of_ble_eq_true rfl) dX6_canDo_269 ?_
    refine g_if_eq (tgt := 290) F dX6_canDo_272 (by decide) (fun c61 => ?_) (fun c61 => ?_)
    · have hX := if_t hX c61
      refine g_sub [] rfl ?_
      exact b290 w59 hX
    · have hX := if_f hX c61
      refine g_aload_n F dX6_canDo_275 2 rfl rfl ?_
      refine G_X6_26 F dX6_canDo_276 ?_
      refine g_iload_n F dX6_canDo_279 1 rfl rfl ?_
      obtain ⟨r62, w63, hc64, hX⟩ := bnd_s hX
      refine callX4_isOpen F hc64 ml_X6_271 ⟨Nat.le_of_ble_eq_true rfl, Nat.le_of_ble_eq_true rfl⟩ (Nat.le_of_ble_eq_true rfl) dX6_canDo_280 ?_
      refine g_if_eq (tgt := 290) F dX6_canDo_283 (by decide) (fun c65 => ?_) (fun c65 => ?_)
      · have hX := if_t hX c65
        refine g_sub [] rfl ?_
        exact b290 w63 hX
      · have hX := if_f hX c65
        refine g_iconst (v := 1) F dX6_canDo_286 (by decide) ?_
        refine g_goto (tgt := 291) F dX6_canDo_287 (by decide) ?_
        exact g_retC (wf := wC Y q) F hr rfl hlk dX6_canDo_291 hX
  have hX := if_f hX c66
  refine g_tabOut (tgt := 292) F dX6_canDo_36 (tab_out5 c13 c26 c40 c57 c66) (by decide) ?_
  refine g_iconst (v := 0) F dX6_canDo_292 (by decide) ?_
  exact g_retC (wf := wC Y q) F hr rfl hlk dX6_canDo_293 hX
theorem callX6_canDo {p : Program} {l : Launch} {e : Env} {R : Room} {s : State} {m : MethodId} {args : Array Value} {below : List Frame} {meth : Method} {c : Code} {D : va_G} {Y : Nat → ClassId} {A : Nat → Prop} {cc : ByteArray} {nL : Nat} {own : String} {Q : State → Prop} {pc : Nat} {lv : List (Nat × Value)} {rest : List Value} {q : Nat → Nat} {a1 a2 : Int32} {u u1 : St} {r : Int32} (F : Fx p s m args c D Y A cc nL own) (hX : pX6_canDo a1 a2 u = some (r, u1)) {index : Nat} (hml : Cond.methodLink own index yX6_canDo ∈ TBL) (hR : 4 + 1 ≤ R.frames ∧ 8 + (5 + 11) + 84 ≤ R.locals) (hcat : (rest.map fun v => v.category).sum ≤ 8) (hd : decode cc pc = .ok (.invokevirtual index, 3)) (kk : GW p l e R s m args below meth c D A nL 0 0 Q (wC Y q u1) (pc + 3) lv (.int r :: rest)) : GW p l e R s m args below meth c D A nL 0 0 Q (wC Y q u) pc lv (.int a2 :: .int a1 :: .ref (q 0) :: rest) := g_callVi (ws := wC Y q u) (n := 2) (q0 := 0) (As := [.int a1, .int a2]) F [] [] (kX6_canDo hX) (List.append_nil _).symm (List.append_nil _) (by unfold mOK; decide +kernel) rfl rfl cd_yX6_canDo hml im_yX6_canDo se_yX6_canDo in_X6 rfl rfl hR ⟨Nat.zero_le _, Nat.zero_le _⟩ rfl hcat hd kk
theorem dX6_firstFor_0 : decode cX6_firstFor 0 = .ok (.iconst 0, 1) := by decide +kernel
theorem dX6_firstFor_1 : decode cX6_firstFor 1 = .ok (.istore_n 2, 1) := by decide +kernel
theorem dX6_firstFor_2 : decode cX6_firstFor 2 = .ok (.iload_n 2, 1) := by decide +kernel
theorem dX6_firstFor_3 : decode cX6_firstFor 3 = .ok (.aload_n 0, 1) := by decide +kernel
theorem dX6_firstFor_4 : decode cX6_firstFor 4 = .ok (.getfield 33, 3) := by decide +kernel
theorem dX6_firstFor_7 : decode cX6_firstFor 7 = .ok (.getfield 218, 3) := by decide +kernel
theorem dX6_firstFor_10 : decode cX6_firstFor 10 = .ok (.if_icmp .ge 20, 3) := by decide +kernel
theorem dX6_firstFor_13 : decode cX6_firstFor 13 = .ok (.aload_n 0, 1) := by decide +kernel
theorem dX6_firstFor_14 : decode cX6_firstFor 14 = .ok (.iload_n 2, 1) := by decide +kernel
theorem dX6_firstFor_15 : decode cX6_firstFor 15 = .ok (.iload_n 1, 1) := by decide +kernel
theorem dX6_firstFor_16 : decode cX6_firstFor 16 = .ok (.invokevirtual 303, 3) := by decide +kernel
theorem dX6_firstFor_19 : decode cX6_firstFor 19 = .ok (.ifCond .eq 5, 3) := by decide +kernel
theorem dX6_firstFor_22 : decode cX6_firstFor 22 = .ok (.iload_n 2, 1) := by decide +kernel
theorem dX6_firstFor_23 : decode cX6_firstFor 23 = .ok (.ireturn, 1) := by decide +kernel
theorem dX6_firstFor_24 : decode cX6_firstFor 24 = .ok (.iinc 2 1, 3) := by decide +kernel
theorem dX6_firstFor_27 : decode cX6_firstFor 27 = .ok (.goto (-25), 3) := by decide +kernel
theorem dX6_firstFor_30 : decode cX6_firstFor 30 = .ok (.iconst (-1), 1) := by decide +kernel
theorem dX6_firstFor_31 : decode cX6_firstFor 31 = .ok (.ireturn, 1) := by decide +kernel
def pX6_firstFor_b2  (n : Nat) : Int32 → Int32 → St → Option (Int32 × St) := Nat.rec (fun _ _ _ => none) (fun _ K2 x1 x2 v => if (v.2 8) ≤ x2 then (some ((-1), v)) else (bnd (pX6_canDo x2 x1 v) (fun r2 w3 => if r2 = 0 then (K2 x1 (x2 + 1) w3) else (some (x2, w3))))) n
def pX6_firstFor (a1 : Int32) (u : St) : Option (Int32 × St) := pX6_firstFor_b2 100 a1 0 u
set_option maxHeartbeats 4000000 in
set_option maxRecDepth 20000 in
theorem kX6_firstFor {l : Launch} {D : va_G} {Y : Nat → ClassId} {q : Nat → Nat} {a1 : Int32} {u u1 : St} {r : Int32} (hX : pX6_firstFor a1 u = some (r, u1)) : CMi l yX6_firstFor cX6_firstFor 3 (some .int) 5 108 D Y (wC Y q u) (wC Y q u1) [.ref (q 0), .int a1] r := by
  refine cm_ofi (by decide) (Nat.le_of_ble_eq_true rfl) rfl (fun p e s m args below meth c A F hr hlk => ?_)
  show GW p l e { frames := 5, cells := 0, slots := 0, locals := 108 } s m args below meth c D A 3 0 0 (MQ below (QI D (wC Y q u1) r A) args s 0 0 A) (wC Y q u) 0 [(0, .ref (q 0)), (1, .int a1)] []
  have b2 : ∀  (n : Nat) (x1 : Int32) (x2 : Int32) (v : St), pX6_firstFor_b2  n x1 x2 v = some (r, u1) → GW p l e { frames := 5, cells := 0, slots := 0, locals := 108 } s m args below meth c D A 3 0 0 (MQ below (QI D (wC Y q u1) r A) args s 0 0 A) (wC Y q v) 2 [(0, .ref (q 0)), (1, .int x1), (2, .int x2)] [] := by
    intro  n
    induction n with
    | zero => intro x1 x2 v hX; cases hX
    | succ n ih =>
      intro x1 x2 v hX
      obtain ⟨K2, eK⟩ : ∃ K : Int32 → Int32 → St → Option (Int32 × St), K = pX6_firstFor_b2  n := ⟨_, rfl⟩
      have hK2 : ∀ (x1 : Int32) (x2 : Int32) (v : St), K2 x1 x2 v = some (r, u1) → GW p l e { frames := 5, cells := 0, slots := 0, locals := 108 } s m args below meth c D A 3 0 0 (MQ below (QI D (wC Y q u1) r A) args s 0 0 A) (wC Y q v) 2 [(0, .ref (q 0)), (1, .int x1), (2, .int x2)] [] := by rw [eK]; exact ih
      have hX : (if (v.2 8) ≤ x2 then (some ((-1), v)) else (bnd (pX6_canDo x2 x1 v) (fun r2 w3 => if r2 = 0 then (K2 x1 (x2 + 1) w3) else (some (x2, w3))))) = some (r, u1) := by rw [eK]; exact hX
      refine g_iload_n F dX6_firstFor_2 2 rfl rfl ?_
      refine g_aload_n F dX6_firstFor_3 0 rfl rfl ?_
      refine G_X6_33 F dX6_firstFor_4 ?_
      refine G_X6_218 F dX6_firstFor_7 ?_
      refine g_icmp_ge (tgt := 30) F dX6_firstFor_10 (by decide) (fun c1 => ?_) (fun c1 => ?_)
      · have hX := if_t hX c1
        refine g_iconst (v := (-1)) F dX6_firstFor_30 (by decide) ?_
        exact g_retC (wf := wC Y q) F hr rfl hlk dX6_firstFor_31 hX
      · have hX := if_f hX c1
        refine g_aload_n F dX6_firstFor_13 0 rfl rfl ?_
        refine g_iload_n F dX6_firstFor_14 2 rfl rfl ?_
        refine g_iload_n F dX6_firstFor_15 1 rfl rfl ?_
        obtain ⟨r2, w3, hc4, hX⟩ := bnd_s hX
        refine callX6_canDo F hc4 ml_X6_303 ⟨Nat.le_of_ble_eq_true rfl, Nat.le_of_ble_eq_true rfl⟩ (Nat.le_of_ble_eq_true rfl) dX6_firstFor_16 ?_
        refine g_if_eq (tgt := 24) F dX6_firstFor_19 (by decide) (fun c5 => ?_) (fun c5 => ?_)
        · have hX := if_t hX c5
          refine g_iinc (v := x2 + 1) (lv' := [(2, .int (x2 + 1)), (0, .ref (q 0)), (1, .int x1)]) F dX6_firstFor_24 2 rfl rfl (by decide) rfl ?_
          refine g_goto (tgt := 2) F dX6_firstFor_27 (by decide) ?_
          refine g_sub [1, 2, 0] rfl ?_
          exact hK2 x1 (x2 + 1) w3 hX
        · have hX := if_f hX c5
          refine g_iload_n F dX6_firstFor_22 2 rfl rfl ?_
          exact g_retC (wf := wC Y q) F hr rfl hlk dX6_firstFor_23 hX
  have hX : (pX6_firstFor_b2 100 a1 0 u) = some (r, u1) := hX
  refine g_iconst (v := 0) F dX6_firstFor_0 (by decide) ?_
  refine g_istore_n (lv' := [(2, .int 0), (0, .ref (q 0)), (1, .int a1)]) F dX6_firstFor_1 rfl (by decide) rfl ?_
  refine g_sub [1, 2, 0] rfl ?_
  exact b2 100 a1 0 u hX
theorem callX6_firstFor {p : Program} {l : Launch} {e : Env} {R : Room} {s : State} {m : MethodId} {args : Array Value} {below : List Frame} {meth : Method} {c : Code} {D : va_G} {Y : Nat → ClassId} {A : Nat → Prop} {cc : ByteArray} {nL : Nat} {own : String} {Q : State → Prop} {pc : Nat} {lv : List (Nat × Value)} {rest : List Value} {q : Nat → Nat} {a1 : Int32} {u u1 : St} {r : Int32} (F : Fx p s m args c D Y A cc nL own) (hX : pX6_firstFor a1 u = some (r, u1)) {index : Nat} (hml : Cond.methodLink own index yX6_firstFor ∈ TBL) (hR : 5 + 1 ≤ R.frames ∧ 8 + (3 + 11) + 108 ≤ R.locals) (hcat : (rest.map fun v => v.category).sum ≤ 8) (hd : decode cc pc = .ok (.invokevirtual index, 3)) (kk : GW p l e R s m args below meth c D A nL 0 0 Q (wC Y q u1) (pc + 3) lv (.int r :: rest)) : GW p l e R s m args below meth c D A nL 0 0 Q (wC Y q u) pc lv (.int a1 :: .ref (q 0) :: rest) := g_callVi (ws := wC Y q u) (n := 1) (q0 := 0) (As := [.int a1]) F [] [] (kX6_firstFor hX) (List.append_nil _).symm (List.append_nil _) (by unfold mOK; decide +kernel) rfl rfl cd_yX6_firstFor hml im_yX6_firstFor se_yX6_firstFor in_X6 rfl rfl hR ⟨Nat.zero_le _, Nat.zero_le _⟩ rfl hcat hd kk
theorem dX6_lift_0 : decode cX6_lift 0 = .ok (.aload_n 0, 1) := by decide +kernel
theorem dX6_lift_1 : decode cX6_lift 1 = .ok (.dup, 1) := by decide +kernel
theorem dX6_lift_2 : decode cX6_lift 2 = .ok (.getfield 238, 3) := by decide +kernel
theorem dX6_lift_5 : decode cX6_lift 5 = .ok (.bipush 10, 2) := by decide +kernel
theorem dX6_lift_7 : decode cX6_lift 7 = .ok (.iadd, 1) := by decide +kernel
theorem dX6_lift_8 : decode cX6_lift 8 = .ok (.putfield 238, 3) := by decide +kernel
theorem dX6_lift_11 : decode cX6_lift 11 = .ok (.iload_n 1, 1) := by decide +kernel
theorem dX6_lift_12 : decode cX6_lift 12 = .ok (.iconst 3, 1) := by decide +kernel
theorem dX6_lift_13 : decode cX6_lift 13 = .ok (.if_icmp .eq 8, 3) := by decide +kernel
theorem dX6_lift_16 : decode cX6_lift 16 = .ok (.iload_n 1, 1) := by decide +kernel
theorem dX6_lift_17 : decode cX6_lift 17 = .ok (.iconst 4, 1) := by decide +kernel
theorem dX6_lift_18 : decode cX6_lift 18 = .ok (.if_icmp .ne 25, 3) := by decide +kernel
theorem dX6_lift_21 : decode cX6_lift 21 = .ok (.aload_n 0, 1) := by decide +kernel
theorem dX6_lift_22 : decode cX6_lift 22 = .ok (.getfield 26, 3) := by decide +kernel
theorem dX6_lift_25 : decode cX6_lift 25 = .ok (.getfield 369, 3) := by decide +kernel
theorem dX6_lift_28 : decode cX6_lift 28 = .ok (.iload_n 2, 1) := by decide +kernel
theorem dX6_lift_29 : decode cX6_lift 29 = .ok (.iload_n 1, 1) := by decide +kernel
theorem dX6_lift_30 : decode cX6_lift 30 = .ok (.iconst 3, 1) := by decide +kernel
theorem dX6_lift_31 : decode cX6_lift 31 = .ok (.if_icmp .ne 7, 3) := by decide +kernel
theorem dX6_lift_34 : decode cX6_lift 34 = .ok (.iconst 1, 1) := by decide +kernel
theorem dX6_lift_35 : decode cX6_lift 35 = .ok (.goto 4, 3) := by decide +kernel
theorem dX6_lift_38 : decode cX6_lift 38 = .ok (.iconst 0, 1) := by decide +kernel
theorem dX6_lift_39 : decode cX6_lift 39 = .ok (.invokevirtual 115, 3) := by decide +kernel
theorem dX6_lift_42 : decode cX6_lift 42 = .ok (.return_, 1) := by decide +kernel
theorem dX6_lift_43 : decode cX6_lift 43 = .ok (.aload_n 0, 1) := by decide +kernel
theorem dX6_lift_44 : decode cX6_lift 44 = .ok (.getfield 10, 3) := by decide +kernel
theorem dX6_lift_47 : decode cX6_lift 47 = .ok (.getfield 258, 3) := by decide +kernel
theorem dX6_lift_50 : decode cX6_lift 50 = .ok (.iload_n 2, 1) := by decide +kernel
theorem dX6_lift_51 : decode cX6_lift 51 = .ok (.aload_n 0, 1) := by decide +kernel
theorem dX6_lift_52 : decode cX6_lift 52 = .ok (.getfield 10, 3) := by decide +kernel
theorem dX6_lift_55 : decode cX6_lift 55 = .ok (.getfield 289, 3) := by decide +kernel
theorem dX6_lift_58 : decode cX6_lift 58 = .ok (.iload_n 2, 1) := by decide +kernel
theorem dX6_lift_59 : decode cX6_lift 59 = .ok (.invokevirtual 81, 3) := by decide +kernel
theorem dX6_lift_62 : decode cX6_lift 62 = .ok (.invokevirtual 115, 3) := by decide +kernel
theorem dX6_lift_65 : decode cX6_lift 65 = .ok (.iload_n 1, 1) := by decide +kernel
theorem dX6_lift_66 : decode cX6_lift 66 = .ok (.iconst 1, 1) := by decide +kernel
theorem dX6_lift_67 : decode cX6_lift 67 = .ok (.if_icmp .ne 37, 3) := by decide +kernel
theorem dX6_lift_70 : decode cX6_lift 70 = .ok (.aload_n 0, 1) := by decide +kernel
theorem dX6_lift_71 : decode cX6_lift 71 = .ok (.aload_n 0, 1) := by decide +kernel
theorem dX6_lift_72 : decode cX6_lift 72 = .ok (.getfield 10, 3) := by decide +kernel
theorem dX6_lift_75 : decode cX6_lift 75 = .ok (.getfield 258, 3) := by decide +kernel
theorem dX6_lift_78 : decode cX6_lift 78 = .ok (.iload_n 2, 1) := by decide +kernel
theorem dX6_lift_79 : decode cX6_lift 79 = .ok (.invokevirtual 81, 3) := by decide +kernel
theorem dX6_lift_82 : decode cX6_lift 82 = .ok (.iload_n 3, 1) := by decide +kernel
theorem dX6_lift_83 : decode cX6_lift 83 = .ok (.invokevirtual 174, 3) := by decide +kernel
theorem dX6_lift_86 : decode cX6_lift 86 = .ok (.ifCond .ne 4, 3) := by decide +kernel
theorem dX6_lift_89 : decode cX6_lift 89 = .ok (.return_, 1) := by decide +kernel
theorem dX6_lift_90 : decode cX6_lift 90 = .ok (.aload_n 0, 1) := by decide +kernel
theorem dX6_lift_91 : decode cX6_lift 91 = .ok (.iload_n 2, 1) := by decide +kernel
theorem dX6_lift_92 : decode cX6_lift 92 = .ok (.invokevirtual 372, 3) := by decide +kernel
theorem dX6_lift_95 : decode cX6_lift 95 = .ok (.aload_n 0, 1) := by decide +kernel
theorem dX6_lift_96 : decode cX6_lift 96 = .ok (.iload_n 2, 1) := by decide +kernel
theorem dX6_lift_97 : decode cX6_lift 97 = .ok (.iload_n 3, 1) := by decide +kernel
theorem dX6_lift_98 : decode cX6_lift 98 = .ok (.invokevirtual 184, 3) := by decide +kernel
theorem dX6_lift_101 : decode cX6_lift 101 = .ok (.goto 24, 3) := by decide +kernel
theorem dX6_lift_104 : decode cX6_lift 104 = .ok (.aload_n 0, 1) := by decide +kernel
theorem dX6_lift_105 : decode cX6_lift 105 = .ok (.iload_n 2, 1) := by decide +kernel
theorem dX6_lift_106 : decode cX6_lift 106 = .ok (.iload_n 3, 1) := by decide +kernel
theorem dX6_lift_107 : decode cX6_lift 107 = .ok (.invokevirtual 306, 3) := by decide +kernel
theorem dX6_lift_110 : decode cX6_lift 110 = .ok (.ifCond .ne 4, 3) := by decide +kernel
theorem dX6_lift_113 : decode cX6_lift 113 = .ok (.return_, 1) := by decide +kernel
theorem dX6_lift_114 : decode cX6_lift 114 = .ok (.aload_n 0, 1) := by decide +kernel
theorem dX6_lift_115 : decode cX6_lift 115 = .ok (.iload_n 2, 1) := by decide +kernel
theorem dX6_lift_116 : decode cX6_lift 116 = .ok (.invokevirtual 372, 3) := by decide +kernel
theorem dX6_lift_119 : decode cX6_lift 119 = .ok (.aload_n 0, 1) := by decide +kernel
theorem dX6_lift_120 : decode cX6_lift 120 = .ok (.iload_n 2, 1) := by decide +kernel
theorem dX6_lift_121 : decode cX6_lift 121 = .ok (.iload_n 3, 1) := by decide +kernel
theorem dX6_lift_122 : decode cX6_lift 122 = .ok (.invokevirtual 375, 3) := by decide +kernel
theorem dX6_lift_125 : decode cX6_lift 125 = .ok (.return_, 1) := by decide +kernel
def pX6_lift_b39  (y0 : Int32) (y1 : Int32) (v : St) : Option (Int32 × St) := some (0, rs v 9 y1 y0)
def pX6_lift_b21  (x1 : Int32) (x2 : Int32) (v : St) : Option (Int32 × St) := if x1 = 3 then (pX6_lift_b39 1 x2 v) else (pX6_lift_b39 0 x2 v)
def pX6_lift (a1 : Int32) (a2 : Int32) (a3 : Int32) (u : St) : Option (Int32 × St) := if a1 = 3 then (pX6_lift_b21 a1 a2 (sS u 2 ((u.2 2) + 10))) else (if a1 = 4 then (pX6_lift_b21 a1 a2 (sS u 2 ((u.2 2) + 10))) else (if a1 = 1 then (bnd (pX6_mayBeStacked (rg (rs (sS u 2 ((u.2 2) + 10)) 0 a2 (rg (sS u 2 ((u.2 2) + 10)) 1 a2)) 0 a2) a3 (rs (sS u 2 ((u.2 2) + 10)) 0 a2 (rg (sS u 2 ((u.2 2) + 10)) 1 a2))) (fun r15 w16 => if r15 = 0 then (some (0, w16)) else (bnd (pX6_takeAway a2 w16) (fun r19 w20 => bnd (pX6_putInYard a2 a3 w20) (fun r22 w23 => some (0, w23)))))) else (bnd (pX6_mayBeIn a2 a3 (rs (sS u 2 ((u.2 2) + 10)) 0 a2 (rg (sS u 2 ((u.2 2) + 10)) 1 a2))) (fun r5 w6 => if r5 = 0 then (some (0, w6)) else (bnd (pX6_takeAway a2 w6) (fun r9 w10 => bnd (pX6_putOnShip a2 a3 w10) (fun r12 w13 => some (0, w13))))))))
set_option maxHeartbeats 4000000 in
set_option maxRecDepth 20000 in
theorem kX6_lift {l : Launch} {D : va_G} {Y : Nat → ClassId} {q : Nat → Nat} {a1 a2 a3 : Int32} {u u1 : St} {r : Int32} (hX : pX6_lift a1 a2 a3 u = some (r, u1)) : CMv l yX6_lift cX6_lift 4 4 89 D Y (wC Y q u) (wC Y q u1) [.ref (q 0), .int a1, .int a2, .int a3] := by
  refine cm_ofv (by decide) (Nat.le_of_ble_eq_true rfl) rfl (fun p e s m args below meth c A F hr hlk => ?_)
  show GW p l e { frames := 4, cells := 0, slots := 0, locals := 89 } s m args below meth c D A 4 0 0 (MQ below (QV D (wC Y q u1) A) args s 0 0 A) (wC Y q u) 0 [(0, .ref (q 0)), (1, .int a1), (2, .int a2), (3, .int a3)] []
  have b39 : ∀  (y0 : Int32) (y1 : Int32) (v : St), pX6_lift_b39  y0 y1 v = some (r, u1) → GW p l e { frames := 4, cells := 0, slots := 0, locals := 89 } s m args below meth c D A 4 0 0 (MQ below (QV D (wC Y q u1) A) args s 0 0 A) (wC Y q v) 39 [] [.int y0, .int y1, .ref (q 24)] := by
    intro  y0 y1 v hX
    have hX : (some (0, rs v 9 y1 y0)) = some (r, u1) := hX
    refine C_rset F 9 (by decide) ml_X6_115 ⟨Nat.le_of_ble_eq_true rfl, Nat.le_of_ble_eq_true rfl⟩ (Nat.le_of_ble_eq_true rfl) dX6_lift_39 ?_
    exact g_retV (wf := wC Y q) F hr hlk dX6_lift_42 hX
  have b21 : ∀  (x1 : Int32) (x2 : Int32) (v : St), pX6_lift_b21  x1 x2 v = some (r, u1) → GW p l e { frames := 4, cells := 0, slots := 0, locals := 89 } s m args below meth c D A 4 0 0 (MQ below (QV D (wC Y q u1) A) args s 0 0 A) (wC Y q v) 21 [(0, .ref (q 0)), (1, .int x1), (2, .int x2)] [] := by
    intro  x1 x2 v hX
    have hX : (if x1 = 3 then (pX6_lift_b39 1 x2 v) else (pX6_lift_b39 0 x2 v)) = some (r, u1) := hX
    refine g_aload_n F dX6_lift_21 0 rfl rfl ?_
    refine G_X6_26 F dX6_lift_22 ?_
    refine G_X6_369 F dX6_lift_25 ?_
    refine g_iload_n F dX6_lift_28 2 rfl rfl ?_
    refine g_iload_n F dX6_lift_29 1 rfl rfl ?_
    refine g_iconst (v := 3) F dX6_lift_30 (by decide) ?_
    refine g_icmp_ne (tgt := 38) F dX6_lift_31 (by decide) (fun c2 => ?_) (fun c2 => ?_)
    · have hX := if_f hX c2
      refine g_iconst (v := 0) F dX6_lift_38 (by decide) ?_
      refine g_sub [] rfl ?_
      exact b39 0 x2 v hX
    · have hX := if_t hX c2
      refine g_iconst (v := 1) F dX6_lift_34 (by decide) ?_
      refine g_goto (tgt := 39) F dX6_lift_35 (by decide) ?_
      refine g_sub [] rfl ?_
      exact b39 1 x2 v hX
  have hX : (if a1 = 3 then (pX6_lift_b21 a1 a2 (sS u 2 ((u.2 2) + 10))) else (if a1 = 4 then (pX6_lift_b21 a1 a2 (sS u 2 ((u.2 2) + 10))) else (if a1 = 1 then (bnd (pX6_mayBeStacked (rg (rs (sS u 2 ((u.2 2) + 10)) 0 a2 (rg (sS u 2 ((u.2 2) + 10)) 1 a2)) 0 a2) a3 (rs (sS u 2 ((u.2 2) + 10)) 0 a2 (rg (sS u 2 ((u.2 2) + 10)) 1 a2))) (fun r15 w16 => if r15 = 0 then (some (0, w16)) else (bnd (pX6_takeAway a2 w16) (fun r19 w20 => bnd (pX6_putInYard a2 a3 w20) (fun r22 w23 => some (0, w23)))))) else (bnd (pX6_mayBeIn a2 a3 (rs (sS u 2 ((u.2 2) + 10)) 0 a2 (rg (sS u 2 ((u.2 2) + 10)) 1 a2))) (fun r5 w6 => if r5 = 0 then (some (0, w6)) else (bnd (pX6_takeAway a2 w6) (fun r9 w10 => bnd (pX6_putOnShip a2 a3 w10) (fun r12 w13 => some (0, w13))))))))) = some (r, u1) := hX
  refine g_aload_n F dX6_lift_0 0 rfl rfl ?_
  refine g_dup F dX6_lift_1 rfl ?_
  refine G_X6_238 F dX6_lift_2 ?_
  refine g_bipush (v := 10) F dX6_lift_5 (by decide) ?_
  refine g_iadd F dX6_lift_7 ?_
  refine P_X6_238 F dX6_lift_8 ?_
  refine g_iload_n F dX6_lift_11 1 rfl rfl ?_
  refine g_iconst (v := 3) F dX6_lift_12 (by decide) ?_
  refine g_icmp_eq (tgt := 21) F dX6_lift_13 (by decide) (fun c1 => ?_) (fun c1 => ?_)
  · have hX := if_t hX c1
    refine g_sub [0, 1, 2] rfl ?_
    exact b21 a1 a2 (sS u 2 ((u.2 2) + 10)) hX
  · have hX := if_f hX c1
    refine g_iload_n F dX6_lift_16 1 rfl rfl ?_
    refine g_iconst (v := 4) F dX6_lift_17 (by decide) ?_
    refine g_icmp_ne (tgt := 43) F dX6_lift_18 (by decide) (fun c3 => ?_) (fun c3 => ?_)
    · have hX := if_f hX c3
      refine g_aload_n F dX6_lift_43 0 rfl rfl ?_
      refine G_X6_10 F dX6_lift_44 ?_
      refine G_X6_258 F dX6_lift_47 ?_
      refine g_iload_n F dX6_lift_50 2 rfl rfl ?_
      refine g_aload_n F dX6_lift_51 0 rfl rfl ?_
      refine G_X6_10 F dX6_lift_52 ?_
      refine G_X6_289 F dX6_lift_55 ?_
      refine g_iload_n F dX6_lift_58 2 rfl rfl ?_
      refine C_rget F 1 (by decide) ml_X6_81 ⟨Nat.le_of_ble_eq_true rfl, Nat.le_of_ble_eq_true rfl⟩ (Nat.le_of_ble_eq_true rfl) dX6_lift_59 ?_
      refine C_rset F 0 (by decide) ml_X6_115 ⟨Nat.le_of_ble_eq_true rfl, Nat.le_of_ble_eq_true rfl⟩ (Nat.le_of_ble_eq_true rfl) dX6_lift_62 ?_
      refine g_iload_n F dX6_lift_65 1 rfl rfl ?_
      refine g_iconst (v := 1) F dX6_lift_66 (by decide) ?_
      refine g_icmp_ne (tgt := 104) F dX6_lift_67 (by decide) (fun c4 => ?_) (fun c4 => ?_)
      · have hX := if_f hX c4
        refine g_aload_n F dX6_lift_104 0 rfl rfl ?_
        refine g_iload_n F dX6_lift_105 2 rfl rfl ?_
        refine g_iload_n F dX6_lift_106 3 rfl rfl ?_
        obtain ⟨r5, w6, hc7, hX⟩ := bnd_s hX
        refine callX6_mayBeIn F hc7 ml_X6_306 ⟨Nat.le_of_ble_eq_true rfl, Nat.le_of_ble_eq_true rfl⟩ (Nat.le_of_ble_eq_true rfl) dX6_lift_107 ?_
        refine g_if_ne (tgt := 114) F dX6_lift_110 (by decide) (fun c8 => ?_) (fun c8 => ?_)
        · have hX := if_f hX c8
          refine g_aload_n F dX6_lift_114 0 rfl rfl ?_
          refine g_iload_n F dX6_lift_115 2 rfl rfl ?_
          obtain ⟨r9, w10, hc11, hX⟩ := bnd_s hX
          refine callX6_takeAway F hc11 ml_X6_372 ⟨Nat.le_of_ble_eq_true rfl, Nat.le_of_ble_eq_true rfl⟩ (Nat.le_of_ble_eq_true rfl) dX6_lift_116 ?_
          refine g_aload_n F dX6_lift_119 0 rfl rfl ?_
          refine g_iload_n F dX6_lift_120 2 rfl rfl ?_
          refine g_iload_n F dX6_lift_121 3 rfl rfl ?_
          obtain ⟨r12, w13, hc14, hX⟩ := bnd_s hX
          refine callX6_putOnShip F hc14 ml_X6_375 ⟨Nat.le_of_ble_eq_true rfl, Nat.le_of_ble_eq_true rfl⟩ (Nat.le_of_ble_eq_true rfl) dX6_lift_122 ?_
          exact g_retV (wf := wC Y q) F hr hlk dX6_lift_125 hX
        · have hX := if_t hX c8
          exact g_retV (wf := wC Y q) F hr hlk dX6_lift_113 hX
      · have hX := if_t hX c4
        refine g_aload_n F dX6_lift_70 0 rfl rfl ?_
        refine g_aload_n F dX6_lift_71 0 rfl rfl ?_
        refine G_X6_10 F dX6_lift_72 ?_
        refine G_X6_258 F dX6_lift_75 ?_
        refine g_iload_n F dX6_lift_78 2 rfl rfl ?_
        refine C_rget F 0 (by decide) ml_X6_81 ⟨Nat.le_of_ble_eq_true rfl, Nat.le_of_ble_eq_true rfl⟩ (Nat.le_of_ble_eq_true rfl) dX6_lift_79 ?_
        refine g_iload_n F dX6_lift_82 3 rfl rfl ?_
        obtain ⟨r15, w16, hc17, hX⟩ := bnd_s hX
        refine callX6_mayBeStacked F hc17 ml_X6_174 ⟨Nat.le_of_ble_eq_true rfl, Nat.le_of_ble_eq_true rfl⟩ (Nat.le_of_ble_eq_true rfl) dX6_lift_83 ?_
        refine g_if_ne (tgt := 90) F dX6_lift_86 (by decide) (fun c18 => ?_) (fun c18 => ?_)
        · have hX := if_f hX c18
          refine g_aload_n F dX6_lift_90 0 rfl rfl ?_
          refine g_iload_n F dX6_lift_91 2 rfl rfl ?_
          obtain ⟨r19, w20, hc21, hX⟩ := bnd_s hX
          refine callX6_takeAway F hc21 ml_X6_372 ⟨Nat.le_of_ble_eq_true rfl, Nat.le_of_ble_eq_true rfl⟩ (Nat.le_of_ble_eq_true rfl) dX6_lift_92 ?_
          refine g_aload_n F dX6_lift_95 0 rfl rfl ?_
          refine g_iload_n F dX6_lift_96 2 rfl rfl ?_
          refine g_iload_n F dX6_lift_97 3 rfl rfl ?_
          obtain ⟨r22, w23, hc24, hX⟩ := bnd_s hX
          refine callX6_putInYard F hc24 ml_X6_184 ⟨Nat.le_of_ble_eq_true rfl, Nat.le_of_ble_eq_true rfl⟩ (Nat.le_of_ble_eq_true rfl) dX6_lift_98 ?_
          refine g_goto (tgt := 125) F dX6_lift_101 (by decide) ?_
          exact g_retV (wf := wC Y q) F hr hlk dX6_lift_125 hX
        · have hX := if_t hX c18
          exact g_retV (wf := wC Y q) F hr hlk dX6_lift_89 hX
    · have hX := if_t hX c3
      refine g_sub [0, 1, 2] rfl ?_
      exact b21 a1 a2 (sS u 2 ((u.2 2) + 10)) hX
theorem callX6_lift {p : Program} {l : Launch} {e : Env} {R : Room} {s : State} {m : MethodId} {args : Array Value} {below : List Frame} {meth : Method} {c : Code} {D : va_G} {Y : Nat → ClassId} {A : Nat → Prop} {cc : ByteArray} {nL : Nat} {own : String} {Q : State → Prop} {pc : Nat} {lv : List (Nat × Value)} {rest : List Value} {q : Nat → Nat} {a1 a2 a3 : Int32} {u u1 : St} {r : Int32} (F : Fx p s m args c D Y A cc nL own) (hX : pX6_lift a1 a2 a3 u = some (r, u1)) {index : Nat} (hml : Cond.methodLink own index yX6_lift ∈ TBL) (hR : 4 + 1 ≤ R.frames ∧ 8 + (4 + 11) + 89 ≤ R.locals) (hcat : (rest.map fun v => v.category).sum ≤ 8) (hd : decode cc pc = .ok (.invokevirtual index, 3)) (kk : GW p l e R s m args below meth c D A nL 0 0 Q (wC Y q u1) (pc + 3) lv (rest)) : GW p l e R s m args below meth c D A nL 0 0 Q (wC Y q u) pc lv (.int a3 :: .int a2 :: .int a1 :: .ref (q 0) :: rest) := g_callVv (ws := wC Y q u) (n := 3) (q0 := 0) (As := [.int a1, .int a2, .int a3]) F [] [] (kX6_lift hX) (List.append_nil _).symm (List.append_nil _) (by unfold mOK; decide +kernel) rfl rfl cd_yX6_lift hml im_yX6_lift se_yX6_lift in_X6 rfl rfl hR ⟨Nat.zero_le _, Nat.zero_le _⟩ rfl hcat hd kk
theorem dX6_workAnHour_0 : decode cX6_workAnHour 0 = .ok (.aload_n 0, 1) := by decide +kernel
theorem dX6_workAnHour_1 : decode cX6_workAnHour 1 = .ok (.getfield 40, 3) := by decide +kernel
theorem dX6_workAnHour_4 : decode cX6_workAnHour 4 = .ok (.getfield 153, 3) := by decide +kernel
theorem dX6_workAnHour_7 : decode cX6_workAnHour 7 = .ok (.iload_n 1, 1) := by decide +kernel
theorem dX6_workAnHour_8 : decode cX6_workAnHour 8 = .ok (.invokevirtual 81, 3) := by decide +kernel
theorem dX6_workAnHour_11 : decode cX6_workAnHour 11 = .ok (.istore_n 2, 1) := by decide +kernel
theorem dX6_workAnHour_12 : decode cX6_workAnHour 12 = .ok (.iconst 0, 1) := by decide +kernel
theorem dX6_workAnHour_13 : decode cX6_workAnHour 13 = .ok (.istore_n 3, 1) := by decide +kernel
theorem dX6_workAnHour_14 : decode cX6_workAnHour 14 = .ok (.iload_n 3, 1) := by decide +kernel
theorem dX6_workAnHour_15 : decode cX6_workAnHour 15 = .ok (.iload_n 2, 1) := by decide +kernel
theorem dX6_workAnHour_16 : decode cX6_workAnHour 16 = .ok (.if_icmp .ge 73, 3) := by decide +kernel
theorem dX6_workAnHour_19 : decode cX6_workAnHour 19 = .ok (.aload_n 0, 1) := by decide +kernel
theorem dX6_workAnHour_20 : decode cX6_workAnHour 20 = .ok (.iload_n 1, 1) := by decide +kernel
theorem dX6_workAnHour_21 : decode cX6_workAnHour 21 = .ok (.invokevirtual 363, 3) := by decide +kernel
theorem dX6_workAnHour_24 : decode cX6_workAnHour 24 = .ok (.istore 4, 2) := by decide +kernel
theorem dX6_workAnHour_26 : decode cX6_workAnHour 26 = .ok (.iload 4, 2) := by decide +kernel
theorem dX6_workAnHour_28 : decode cX6_workAnHour 28 = .ok (.iconst (-1), 1) := by decide +kernel
theorem dX6_workAnHour_29 : decode cX6_workAnHour 29 = .ok (.if_icmp .ne 5, 3) := by decide +kernel
theorem dX6_workAnHour_32 : decode cX6_workAnHour 32 = .ok (.iload_n 3, 1) := by decide +kernel
theorem dX6_workAnHour_33 : decode cX6_workAnHour 33 = .ok (.ireturn, 1) := by decide +kernel
theorem dX6_workAnHour_34 : decode cX6_workAnHour 34 = .ok (.aload_n 0, 1) := by decide +kernel
theorem dX6_workAnHour_35 : decode cX6_workAnHour 35 = .ok (.aload_n 0, 1) := by decide +kernel
theorem dX6_workAnHour_36 : decode cX6_workAnHour 36 = .ok (.getfield 33, 3) := by decide +kernel
theorem dX6_workAnHour_39 : decode cX6_workAnHour 39 = .ok (.getfield 351, 3) := by decide +kernel
theorem dX6_workAnHour_42 : decode cX6_workAnHour 42 = .ok (.iload 4, 2) := by decide +kernel
theorem dX6_workAnHour_44 : decode cX6_workAnHour 44 = .ok (.invokevirtual 81, 3) := by decide +kernel
theorem dX6_workAnHour_47 : decode cX6_workAnHour 47 = .ok (.aload_n 0, 1) := by decide +kernel
theorem dX6_workAnHour_48 : decode cX6_workAnHour 48 = .ok (.getfield 33, 3) := by decide +kernel
theorem dX6_workAnHour_51 : decode cX6_workAnHour 51 = .ok (.getfield 347, 3) := by decide +kernel
theorem dX6_workAnHour_54 : decode cX6_workAnHour 54 = .ok (.iload 4, 2) := by decide +kernel
theorem dX6_workAnHour_56 : decode cX6_workAnHour 56 = .ok (.invokevirtual 81, 3) := by decide +kernel
theorem dX6_workAnHour_59 : decode cX6_workAnHour 59 = .ok (.aload_n 0, 1) := by decide +kernel
theorem dX6_workAnHour_60 : decode cX6_workAnHour 60 = .ok (.getfield 33, 3) := by decide +kernel
theorem dX6_workAnHour_63 : decode cX6_workAnHour 63 = .ok (.getfield 350, 3) := by decide +kernel
theorem dX6_workAnHour_66 : decode cX6_workAnHour 66 = .ok (.iload 4, 2) := by decide +kernel
theorem dX6_workAnHour_68 : decode cX6_workAnHour 68 = .ok (.invokevirtual 81, 3) := by decide +kernel
theorem dX6_workAnHour_71 : decode cX6_workAnHour 71 = .ok (.invokevirtual 366, 3) := by decide +kernel
theorem dX6_workAnHour_74 : decode cX6_workAnHour 74 = .ok (.aload_n 0, 1) := by decide +kernel
theorem dX6_workAnHour_75 : decode cX6_workAnHour 75 = .ok (.getfield 33, 3) := by decide +kernel
theorem dX6_workAnHour_78 : decode cX6_workAnHour 78 = .ok (.iload 4, 2) := by decide +kernel
theorem dX6_workAnHour_80 : decode cX6_workAnHour 80 = .ok (.invokevirtual 230, 3) := by decide +kernel
theorem dX6_workAnHour_83 : decode cX6_workAnHour 83 = .ok (.iinc 3 1, 3) := by decide +kernel
theorem dX6_workAnHour_86 : decode cX6_workAnHour 86 = .ok (.goto (-72), 3) := by decide +kernel
theorem dX6_workAnHour_89 : decode cX6_workAnHour 89 = .ok (.iload_n 2, 1) := by decide +kernel
theorem dX6_workAnHour_90 : decode cX6_workAnHour 90 = .ok (.ireturn, 1) := by decide +kernel
def pX6_workAnHour_b14  (n : Nat) : Int32 → Int32 → Int32 → St → Option (Int32 × St) := Nat.rec (fun _ _ _ _ => none) (fun _ K14 x1 x2 x3 v => if x2 ≤ x3 then (some (x2, v)) else (bnd (pX6_firstFor x1 v) (fun r2 w3 => if r2 = ((-1)) then (some (x3, w3)) else (bnd (pX6_lift (rg w3 15 r2) (rg w3 16 r2) (rg w3 17 r2) w3) (fun r6 w7 => bnd (pX2_remove r2 w7) (fun r9 w10 => K14 x1 x2 (x3 + 1) w10)))))) n
def pX6_workAnHour (a1 : Int32) (u : St) : Option (Int32 × St) := pX6_workAnHour_b14 100 a1 (rg u 20 a1) 0 u
set_option maxHeartbeats 4000000 in
set_option maxRecDepth 20000 in
theorem kX6_workAnHour {l : Launch} {D : va_G} {Y : Nat → ClassId} {q : Nat → Nat} {a1 : Int32} {u u1 : St} {r : Int32} (hX : pX6_workAnHour a1 u = some (r, u1)) : CMi l yX6_workAnHour cX6_workAnHour 5 (some .int) 6 130 D Y (wC Y q u) (wC Y q u1) [.ref (q 0), .int a1] r := by
  refine cm_ofi (by decide) (Nat.le_of_ble_eq_true rfl) rfl (fun p e s m args below meth c A F hr hlk => ?_)
  show GW p l e { frames := 6, cells := 0, slots := 0, locals := 130 } s m args below meth c D A 5 0 0 (MQ below (QI D (wC Y q u1) r A) args s 0 0 A) (wC Y q u) 0 [(0, .ref (q 0)), (1, .int a1)] []
  have b14 : ∀  (n : Nat) (x1 : Int32) (x2 : Int32) (x3 : Int32) (v : St), pX6_workAnHour_b14  n x1 x2 x3 v = some (r, u1) → GW p l e { frames := 6, cells := 0, slots := 0, locals := 130 } s m args below meth c D A 5 0 0 (MQ below (QI D (wC Y q u1) r A) args s 0 0 A) (wC Y q v) 14 [(0, .ref (q 0)), (1, .int x1), (2, .int x2), (3, .int x3)] [] := by
    intro  n
    induction n with
    | zero => intro x1 x2 x3 v hX; cases hX
    | succ n ih =>
      intro x1 x2 x3 v hX
      obtain ⟨K14, eK⟩ : ∃ K : Int32 → Int32 → Int32 → St → Option (Int32 × St), K = pX6_workAnHour_b14  n := ⟨_, rfl⟩
      have hK14 : ∀ (x1 : Int32) (x2 : Int32) (x3 : Int32) (v : St), K14 x1 x2 x3 v = some (r, u1) → GW p l e { frames := 6, cells := 0, slots := 0, locals := 130 } s m args below meth c D A 5 0 0 (MQ below (QI D (wC Y q u1) r A) args s 0 0 A) (wC Y q v) 14 [(0, .ref (q 0)), (1, .int x1), (2, .int x2), (3, .int x3)] [] := by rw [eK]; exact ih
      have hX : (if x2 ≤ x3 then (some (x2, v)) else (bnd (pX6_firstFor x1 v) (fun r2 w3 => if r2 = ((-1)) then (some (x3, w3)) else (bnd (pX6_lift (rg w3 15 r2) (rg w3 16 r2) (rg w3 17 r2) w3) (fun r6 w7 => bnd (pX2_remove r2 w7) (fun r9 w10 => K14 x1 x2 (x3 + 1) w10)))))) = some (r, u1) := by rw [eK]; exact hX
      refine g_iload_n F dX6_workAnHour_14 3 rfl rfl ?_
      refine g_iload_n F dX6_workAnHour_15 2 rfl rfl ?_
      refine g_icmp_ge (tgt := 89) F dX6_workAnHour_16 (by decide) (fun c1 => ?_) (fun c1 => ?_)
      · have hX := if_t hX c1
        refine g_iload_n F dX6_workAnHour_89 2 rfl rfl ?_
        exact g_retC (wf := wC Y q) F hr rfl hlk dX6_workAnHour_90 hX
      · have hX := if_f hX c1
        refine g_aload_n F dX6_workAnHour_19 0 rfl rfl ?_
        refine g_iload_n F dX6_workAnHour_20 1 rfl rfl ?_
        obtain ⟨r2, w3, hc4, hX⟩ := bnd_s hX
        refine callX6_firstFor F hc4 ml_X6_363 ⟨Nat.le_of_ble_eq_true rfl, Nat.le_of_ble_eq_true rfl⟩ (Nat.le_of_ble_eq_true rfl) dX6_workAnHour_21 ?_
        refine g_istore (lv' := [(4, .int r2), (0, .ref (q 0)), (1, .int x1), (2, .int x2), (3, .int x3)]) F dX6_workAnHour_24 (by decide) rfl ?_
        refine g_iload F dX6_workAnHour_26 0 rfl ?_
        refine g_iconst (v := (-1)) F dX6_workAnHour_28 (by decide) ?_
        refine g_icmp_ne (tgt := 34) F dX6_workAnHour_29 (by decide) (fun c5 => ?_) (fun c5 => ?_)
        · have hX := if_f hX c5
          refine g_aload_n F dX6_workAnHour_34 1 rfl rfl ?_
          refine g_aload_n F dX6_workAnHour_35 1 rfl rfl ?_
          refine G_X6_33 F dX6_workAnHour_36 ?_
          refine G_X6_351 F dX6_workAnHour_39 ?_
          refine g_iload F dX6_workAnHour_42 0 rfl ?_
          refine C_rget F 15 (by decide) ml_X6_81 ⟨Nat.le_of_ble_eq_true rfl, Nat.le_of_ble_eq_true rfl⟩ (Nat.le_of_ble_eq_true rfl) dX6_workAnHour_44 ?_
          refine g_aload_n F dX6_workAnHour_47 1 rfl rfl ?_
          refine G_X6_33 F dX6_workAnHour_48 ?_
          refine G_X6_347 F dX6_workAnHour_51 ?_
          refine g_iload F dX6_workAnHour_54 0 rfl ?_
          refine C_rget F 16 (by decide) ml_X6_81 ⟨Nat.le_of_ble_eq_true rfl, Nat.le_of_ble_eq_true rfl⟩ (Nat.le_of_ble_eq_true rfl) dX6_workAnHour_56 ?_
          refine g_aload_n F dX6_workAnHour_59 1 rfl rfl ?_
          refine G_X6_33 F dX6_workAnHour_60 ?_
          refine G_X6_350 F dX6_workAnHour_63 ?_
          refine g_iload F dX6_workAnHour_66 0 rfl ?_
          refine C_rget F 17 (by decide) ml_X6_81 ⟨Nat.le_of_ble_eq_true rfl, Nat.le_of_ble_eq_true rfl⟩ (Nat.le_of_ble_eq_true rfl) dX6_workAnHour_68 ?_
          obtain ⟨r6, w7, hc8, hX⟩ := bnd_s hX
          refine callX6_lift F hc8 ml_X6_366 ⟨Nat.le_of_ble_eq_true rfl, Nat.le_of_ble_eq_true rfl⟩ (Nat.le_of_ble_eq_true rfl) dX6_workAnHour_71 ?_
          refine g_aload_n F dX6_workAnHour_74 1 rfl rfl ?_
          refine G_X6_33 F dX6_workAnHour_75 ?_
          refine g_iload F dX6_workAnHour_78 0 rfl ?_
          obtain ⟨r9, w10, hc11, hX⟩ := bnd_s hX
          refine callX2_remove F hc11 ml_X6_230 ⟨Nat.le_of_ble_eq_true rfl, Nat.le_of_ble_eq_true rfl⟩ (Nat.le_of_ble_eq_true rfl) dX6_workAnHour_80 ?_
          refine g_iinc (v := x3 + 1) (lv' := [(3, .int (x3 + 1)), (4, .int r2), (0, .ref (q 0)), (1, .int x1), (2, .int x2)]) F dX6_workAnHour_83 4 rfl rfl (by decide) rfl ?_
          refine g_goto (tgt := 14) F dX6_workAnHour_86 (by decide) ?_
          refine g_sub [2, 3, 4, 0] rfl ?_
          exact hK14 x1 x2 (x3 + 1) w10 hX
        · have hX := if_t hX c5
          refine g_iload_n F dX6_workAnHour_32 4 rfl rfl ?_
          exact g_retC (wf := wC Y q) F hr rfl hlk dX6_workAnHour_33 hX
  have hX : (pX6_workAnHour_b14 100 a1 (rg u 20 a1) 0 u) = some (r, u1) := hX
  refine g_aload_n F dX6_workAnHour_0 0 rfl rfl ?_
  refine G_X6_40 F dX6_workAnHour_1 ?_
  refine G_X6_153 F dX6_workAnHour_4 ?_
  refine g_iload_n F dX6_workAnHour_7 1 rfl rfl ?_
  refine C_rget F 20 (by decide) ml_X6_81 ⟨Nat.le_of_ble_eq_true rfl, Nat.le_of_ble_eq_true rfl⟩ (Nat.le_of_ble_eq_true rfl) dX6_workAnHour_8 ?_
  refine g_istore_n (lv' := [(2, .int (rg u 20 a1)), (0, .ref (q 0)), (1, .int a1)]) F dX6_workAnHour_11 rfl (by decide) rfl ?_
  refine g_iconst (v := 0) F dX6_workAnHour_12 (by decide) ?_
  refine g_istore_n (lv' := [(3, .int 0), (2, .int (rg u 20 a1)), (0, .ref (q 0)), (1, .int a1)]) F dX6_workAnHour_13 rfl (by decide) rfl ?_
  refine g_sub [2, 3, 1, 0] rfl ?_
  exact b14 100 a1 (rg u 20 a1) 0 u hX
theorem callX6_workAnHour {p : Program} {l : Launch} {e : Env} {R : Room} {s : State} {m : MethodId} {args : Array Value} {below : List Frame} {meth : Method} {c : Code} {D : va_G} {Y : Nat → ClassId} {A : Nat → Prop} {cc : ByteArray} {nL : Nat} {own : String} {Q : State → Prop} {pc : Nat} {lv : List (Nat × Value)} {rest : List Value} {q : Nat → Nat} {a1 : Int32} {u u1 : St} {r : Int32} (F : Fx p s m args c D Y A cc nL own) (hX : pX6_workAnHour a1 u = some (r, u1)) {index : Nat} (hml : Cond.methodLink own index yX6_workAnHour ∈ TBL) (hR : 6 + 1 ≤ R.frames ∧ 8 + (5 + 11) + 130 ≤ R.locals) (hcat : (rest.map fun v => v.category).sum ≤ 8) (hd : decode cc pc = .ok (.invokevirtual index, 3)) (kk : GW p l e R s m args below meth c D A nL 0 0 Q (wC Y q u1) (pc + 3) lv (.int r :: rest)) : GW p l e R s m args below meth c D A nL 0 0 Q (wC Y q u) pc lv (.int a1 :: .ref (q 0) :: rest) := g_callVi (ws := wC Y q u) (n := 1) (q0 := 0) (As := [.int a1]) F [] [] (kX6_workAnHour hX) (List.append_nil _).symm (List.append_nil _) (by unfold mOK; decide +kernel) rfl rfl cd_yX6_workAnHour hml im_yX6_workAnHour se_yX6_workAnHour in_X6 rfl rfl hR ⟨Nat.zero_le _, Nat.zero_le _⟩ rfl hcat hd kk
theorem dX6_hour_0 : decode cX6_hour 0 = .ok (.aload_n 0, 1) := by decide +kernel
theorem dX6_hour_1 : decode cX6_hour 1 = .ok (.getfield 129, 3) := by decide +kernel
theorem dX6_hour_4 : decode cX6_hour 4 = .ok (.ireturn, 1) := by decide +kernel
def pX6_hour  (u : St) : Option (Int32 × St) := some (u.2 0, u)
set_option maxHeartbeats 4000000 in
set_option maxRecDepth 20000 in
theorem kX6_hour {l : Launch} {D : va_G} {Y : Nat → ClassId} {q : Nat → Nat} {u u1 : St} {r : Int32} (hX : pX6_hour u = some (r, u1)) : CMi l yX6_hour cX6_hour 1 (some .int) 0 0 D Y (wC Y q u) (wC Y q u1) [.ref (q 0)] r := by
  refine cm_ofi (by decide) (Nat.le_of_ble_eq_true rfl) rfl (fun p e s m args below meth c A F hr hlk => ?_)
  show GW p l e { frames := 0, cells := 0, slots := 0, locals := 0 } s m args below meth c D A 1 0 0 (MQ below (QI D (wC Y q u1) r A) args s 0 0 A) (wC Y q u) 0 [(0, .ref (q 0))] []
  have hX : (some (u.2 0, u)) = some (r, u1) := hX
  refine g_aload_n F dX6_hour_0 0 rfl rfl ?_
  refine G_X6_129 F dX6_hour_1 ?_
  exact g_retC (wf := wC Y q) F hr rfl hlk dX6_hour_4 hX
theorem callX6_hour {p : Program} {l : Launch} {e : Env} {R : Room} {s : State} {m : MethodId} {args : Array Value} {below : List Frame} {meth : Method} {c : Code} {D : va_G} {Y : Nat → ClassId} {A : Nat → Prop} {cc : ByteArray} {nL : Nat} {own : String} {Q : State → Prop} {pc : Nat} {lv : List (Nat × Value)} {rest : List Value} {q : Nat → Nat} {u u1 : St} {r : Int32} (F : Fx p s m args c D Y A cc nL own) (hX : pX6_hour u = some (r, u1)) {index : Nat} (hml : Cond.methodLink own index yX6_hour ∈ TBL) (hR : 0 + 1 ≤ R.frames ∧ 8 + (1 + 11) + 0 ≤ R.locals) (hcat : (rest.map fun v => v.category).sum ≤ 8) (hd : decode cc pc = .ok (.invokevirtual index, 3)) (kk : GW p l e R s m args below meth c D A nL 0 0 Q (wC Y q u1) (pc + 3) lv (.int r :: rest)) : GW p l e R s m args below meth c D A nL 0 0 Q (wC Y q u) pc lv (.ref (q 0) :: rest) := g_callVi (ws := wC Y q u) (n := 0) (q0 := 0) (As := []) F [] [] (kX6_hour hX) (List.append_nil _).symm (List.append_nil _) (by unfold mOK; decide +kernel) rfl rfl cd_yX6_hour hml im_yX6_hour se_yX6_hour in_X6 rfl rfl hR ⟨Nat.zero_le _, Nat.zero_le _⟩ rfl hcat hd kk
theorem dX6_port_0 : decode cX6_port 0 = .ok (.aload_n 0, 1) := by decide +kernel
theorem dX6_port_1 : decode cX6_port 1 = .ok (.getfield 256, 3) := by decide +kernel
theorem dX6_port_4 : decode cX6_port 4 = .ok (.ireturn, 1) := by decide +kernel
def pX6_port  (u : St) : Option (Int32 × St) := some (u.2 1, u)
set_option maxHeartbeats 4000000 in
set_option maxRecDepth 20000 in
theorem kX6_port {l : Launch} {D : va_G} {Y : Nat → ClassId} {q : Nat → Nat} {u u1 : St} {r : Int32} (hX : pX6_port u = some (r, u1)) : CMi l yX6_port cX6_port 1 (some .int) 0 0 D Y (wC Y q u) (wC Y q u1) [.ref (q 0)] r := by
  refine cm_ofi (by decide) (Nat.le_of_ble_eq_true rfl) rfl (fun p e s m args below meth c A F hr hlk => ?_)
  show GW p l e { frames := 0, cells := 0, slots := 0, locals := 0 } s m args below meth c D A 1 0 0 (MQ below (QI D (wC Y q u1) r A) args s 0 0 A) (wC Y q u) 0 [(0, .ref (q 0))] []
  have hX : (some (u.2 1, u)) = some (r, u1) := hX
  refine g_aload_n F dX6_port_0 0 rfl rfl ?_
  refine G_X6_256 F dX6_port_1 ?_
  exact g_retC (wf := wC Y q) F hr rfl hlk dX6_port_4 hX
theorem callX6_port {p : Program} {l : Launch} {e : Env} {R : Room} {s : State} {m : MethodId} {args : Array Value} {below : List Frame} {meth : Method} {c : Code} {D : va_G} {Y : Nat → ClassId} {A : Nat → Prop} {cc : ByteArray} {nL : Nat} {own : String} {Q : State → Prop} {pc : Nat} {lv : List (Nat × Value)} {rest : List Value} {q : Nat → Nat} {u u1 : St} {r : Int32} (F : Fx p s m args c D Y A cc nL own) (hX : pX6_port u = some (r, u1)) {index : Nat} (hml : Cond.methodLink own index yX6_port ∈ TBL) (hR : 0 + 1 ≤ R.frames ∧ 8 + (1 + 11) + 0 ≤ R.locals) (hcat : (rest.map fun v => v.category).sum ≤ 8) (hd : decode cc pc = .ok (.invokevirtual index, 3)) (kk : GW p l e R s m args below meth c D A nL 0 0 Q (wC Y q u1) (pc + 3) lv (.int r :: rest)) : GW p l e R s m args below meth c D A nL 0 0 Q (wC Y q u) pc lv (.ref (q 0) :: rest) := g_callVi (ws := wC Y q u) (n := 0) (q0 := 0) (As := []) F [] [] (kX6_port hX) (List.append_nil _).symm (List.append_nil _) (by unfold mOK; decide +kernel) rfl rfl cd_yX6_port hml im_yX6_port se_yX6_port in_X6 rfl rfl hR ⟨Nat.zero_le _, Nat.zero_le _⟩ rfl hcat hd kk
theorem dX6_cost_0 : decode cX6_cost 0 = .ok (.aload_n 0, 1) := by decide +kernel
theorem dX6_cost_1 : decode cX6_cost 1 = .ok (.getfield 238, 3) := by decide +kernel
theorem dX6_cost_4 : decode cX6_cost 4 = .ok (.ireturn, 1) := by decide +kernel
def pX6_cost  (u : St) : Option (Int32 × St) := some (u.2 2, u)
set_option maxHeartbeats 4000000 in
set_option maxRecDepth 20000 in
theorem kX6_cost {l : Launch} {D : va_G} {Y : Nat → ClassId} {q : Nat → Nat} {u u1 : St} {r : Int32} (hX : pX6_cost u = some (r, u1)) : CMi l yX6_cost cX6_cost 1 (some .int) 0 0 D Y (wC Y q u) (wC Y q u1) [.ref (q 0)] r := by
  refine cm_ofi (by decide) (Nat.le_of_ble_eq_true rfl) rfl (fun p e s m args below meth c A F hr hlk => ?_)
  show GW p l e { frames := 0, cells := 0, slots := 0, locals := 0 } s m args below meth c D A 1 0 0 (MQ below (QI D (wC Y q u1) r A) args s 0 0 A) (wC Y q u) 0 [(0, .ref (q 0))] []
  have hX : (some (u.2 2, u)) = some (r, u1) := hX
  refine g_aload_n F dX6_cost_0 0 rfl rfl ?_
  refine G_X6_238 F dX6_cost_1 ?_
  exact g_retC (wf := wC Y q) F hr rfl hlk dX6_cost_4 hX
theorem callX6_cost {p : Program} {l : Launch} {e : Env} {R : Room} {s : State} {m : MethodId} {args : Array Value} {below : List Frame} {meth : Method} {c : Code} {D : va_G} {Y : Nat → ClassId} {A : Nat → Prop} {cc : ByteArray} {nL : Nat} {own : String} {Q : State → Prop} {pc : Nat} {lv : List (Nat × Value)} {rest : List Value} {q : Nat → Nat} {u u1 : St} {r : Int32} (F : Fx p s m args c D Y A cc nL own) (hX : pX6_cost u = some (r, u1)) {index : Nat} (hml : Cond.methodLink own index yX6_cost ∈ TBL) (hR : 0 + 1 ≤ R.frames ∧ 8 + (1 + 11) + 0 ≤ R.locals) (hcat : (rest.map fun v => v.category).sum ≤ 8) (hd : decode cc pc = .ok (.invokevirtual index, 3)) (kk : GW p l e R s m args below meth c D A nL 0 0 Q (wC Y q u1) (pc + 3) lv (.int r :: rest)) : GW p l e R s m args below meth c D A nL 0 0 Q (wC Y q u) pc lv (.ref (q 0) :: rest) := g_callVi (ws := wC Y q u) (n := 0) (q0 := 0) (As := []) F [] [] (kX6_cost hX) (List.append_nil _).symm (List.append_nil _) (by unfold mOK; decide +kernel) rfl rfl cd_yX6_cost hml im_yX6_cost se_yX6_cost in_X6 rfl rfl hR ⟨Nat.zero_le _, Nat.zero_le _⟩ rfl hcat hd kk
theorem dX6_bars_0 : decode cX6_bars 0 = .ok (.iconst 0, 1) := by decide +kernel
theorem dX6_bars_1 : decode cX6_bars 1 = .ok (.istore_n 1, 1) := by decide +kernel
theorem dX6_bars_2 : decode cX6_bars 2 = .ok (.iconst 0, 1) := by decide +kernel
theorem dX6_bars_3 : decode cX6_bars 3 = .ok (.istore_n 2, 1) := by decide +kernel
theorem dX6_bars_4 : decode cX6_bars 4 = .ok (.iload_n 2, 1) := by decide +kernel
theorem dX6_bars_5 : decode cX6_bars 5 = .ok (.bipush 6, 2) := by decide +kernel
theorem dX6_bars_7 : decode cX6_bars 7 = .ok (.if_icmp .ge 24, 3) := by decide +kernel
theorem dX6_bars_10 : decode cX6_bars 10 = .ok (.aload_n 0, 1) := by decide +kernel
theorem dX6_bars_11 : decode cX6_bars 11 = .ok (.getfield 26, 3) := by decide +kernel
theorem dX6_bars_14 : decode cX6_bars 14 = .ok (.iload_n 2, 1) := by decide +kernel
theorem dX6_bars_15 : decode cX6_bars 15 = .ok (.invokevirtual 271, 3) := by decide +kernel
theorem dX6_bars_18 : decode cX6_bars 18 = .ok (.ifCond .eq 7, 3) := by decide +kernel
theorem dX6_bars_21 : decode cX6_bars 21 = .ok (.iload_n 1, 1) := by decide +kernel
theorem dX6_bars_22 : decode cX6_bars 22 = .ok (.iconst 1, 1) := by decide +kernel
theorem dX6_bars_23 : decode cX6_bars 23 = .ok (.ior, 1) := by decide +kernel
theorem dX6_bars_24 : decode cX6_bars 24 = .ok (.istore_n 1, 1) := by decide +kernel
theorem dX6_bars_25 : decode cX6_bars 25 = .ok (.iinc 2 1, 3) := by decide +kernel
theorem dX6_bars_28 : decode cX6_bars 28 = .ok (.goto (-24), 3) := by decide +kernel
theorem dX6_bars_31 : decode cX6_bars 31 = .ok (.aload_n 0, 1) := by decide +kernel
theorem dX6_bars_32 : decode cX6_bars 32 = .ok (.iconst 0, 1) := by decide +kernel
theorem dX6_bars_33 : decode cX6_bars 33 = .ok (.invokevirtual 277, 3) := by decide +kernel
theorem dX6_bars_36 : decode cX6_bars 36 = .ok (.invokestatic 292, 3) := by decide +kernel
theorem dX6_bars_39 : decode cX6_bars 39 = .ok (.aload_n 0, 1) := by decide +kernel
theorem dX6_bars_40 : decode cX6_bars 40 = .ok (.getfield 53, 3) := by decide +kernel
theorem dX6_bars_43 : decode cX6_bars 43 = .ok (.if_icmp .le 7, 3) := by decide +kernel
theorem dX6_bars_46 : decode cX6_bars 46 = .ok (.iload_n 1, 1) := by decide +kernel
theorem dX6_bars_47 : decode cX6_bars 47 = .ok (.iconst 2, 1) := by decide +kernel
theorem dX6_bars_48 : decode cX6_bars 48 = .ok (.ior, 1) := by decide +kernel
theorem dX6_bars_49 : decode cX6_bars 49 = .ok (.istore_n 1, 1) := by decide +kernel
theorem dX6_bars_50 : decode cX6_bars 50 = .ok (.aload_n 0, 1) := by decide +kernel
theorem dX6_bars_51 : decode cX6_bars 51 = .ok (.bipush 6, 2) := by decide +kernel
theorem dX6_bars_53 : decode cX6_bars 53 = .ok (.invokevirtual 277, 3) := by decide +kernel
theorem dX6_bars_56 : decode cX6_bars 56 = .ok (.invokestatic 292, 3) := by decide +kernel
theorem dX6_bars_59 : decode cX6_bars 59 = .ok (.aload_n 0, 1) := by decide +kernel
theorem dX6_bars_60 : decode cX6_bars 60 = .ok (.getfield 57, 3) := by decide +kernel
theorem dX6_bars_63 : decode cX6_bars 63 = .ok (.if_icmp .le 7, 3) := by decide +kernel
theorem dX6_bars_66 : decode cX6_bars 66 = .ok (.iload_n 1, 1) := by decide +kernel
theorem dX6_bars_67 : decode cX6_bars 67 = .ok (.iconst 4, 1) := by decide +kernel
theorem dX6_bars_68 : decode cX6_bars 68 = .ok (.ior, 1) := by decide +kernel
theorem dX6_bars_69 : decode cX6_bars 69 = .ok (.istore_n 1, 1) := by decide +kernel
theorem dX6_bars_70 : decode cX6_bars 70 = .ok (.iconst 1, 1) := by decide +kernel
theorem dX6_bars_71 : decode cX6_bars 71 = .ok (.istore_n 2, 1) := by decide +kernel
theorem dX6_bars_72 : decode cX6_bars 72 = .ok (.iload_n 2, 1) := by decide +kernel
theorem dX6_bars_73 : decode cX6_bars 73 = .ok (.bipush 6, 2) := by decide +kernel
theorem dX6_bars_75 : decode cX6_bars 75 = .ok (.if_icmp .ge 29, 3) := by decide +kernel
theorem dX6_bars_78 : decode cX6_bars 78 = .ok (.aload_n 0, 1) := by decide +kernel
theorem dX6_bars_79 : decode cX6_bars 79 = .ok (.iload_n 2, 1) := by decide +kernel
theorem dX6_bars_80 : decode cX6_bars 80 = .ok (.invokevirtual 277, 3) := by decide +kernel
theorem dX6_bars_83 : decode cX6_bars 83 = .ok (.invokestatic 292, 3) := by decide +kernel
theorem dX6_bars_86 : decode cX6_bars 86 = .ok (.aload_n 0, 1) := by decide +kernel
theorem dX6_bars_87 : decode cX6_bars 87 = .ok (.getfield 60, 3) := by decide +kernel
theorem dX6_bars_90 : decode cX6_bars 90 = .ok (.if_icmp .le 8, 3) := by decide +kernel
theorem dX6_bars_93 : decode cX6_bars 93 = .ok (.iload_n 1, 1) := by decide +kernel
theorem dX6_bars_94 : decode cX6_bars 94 = .ok (.bipush 8, 2) := by decide +kernel
theorem dX6_bars_96 : decode cX6_bars 96 = .ok (.ior, 1) := by decide +kernel
theorem dX6_bars_97 : decode cX6_bars 97 = .ok (.istore_n 1, 1) := by decide +kernel
theorem dX6_bars_98 : decode cX6_bars 98 = .ok (.iinc 2 1, 3) := by decide +kernel
theorem dX6_bars_101 : decode cX6_bars 101 = .ok (.goto (-29), 3) := by decide +kernel
theorem dX6_bars_104 : decode cX6_bars 104 = .ok (.iconst 0, 1) := by decide +kernel
theorem dX6_bars_105 : decode cX6_bars 105 = .ok (.istore_n 2, 1) := by decide +kernel
theorem dX6_bars_106 : decode cX6_bars 106 = .ok (.iload_n 2, 1) := by decide +kernel
theorem dX6_bars_107 : decode cX6_bars 107 = .ok (.aload_n 0, 1) := by decide +kernel
theorem dX6_bars_108 : decode cX6_bars 108 = .ok (.getfield 10, 3) := by decide +kernel
theorem dX6_bars_111 : decode cX6_bars 111 = .ok (.getfield 169, 3) := by decide +kernel
theorem dX6_bars_114 : decode cX6_bars 114 = .ok (.if_icmp .ge 47, 3) := by decide +kernel
theorem dX6_bars_117 : decode cX6_bars 117 = .ok (.aload_n 0, 1) := by decide +kernel
theorem dX6_bars_118 : decode cX6_bars 118 = .ok (.getfield 10, 3) := by decide +kernel
theorem dX6_bars_121 : decode cX6_bars 121 = .ok (.getfield 210, 3) := by decide +kernel
theorem dX6_bars_124 : decode cX6_bars 124 = .ok (.iload_n 2, 1) := by decide +kernel
theorem dX6_bars_125 : decode cX6_bars 125 = .ok (.invokevirtual 81, 3) := by decide +kernel
theorem dX6_bars_128 : decode cX6_bars 128 = .ok (.iconst 1, 1) := by decide +kernel
theorem dX6_bars_129 : decode cX6_bars 129 = .ok (.if_icmp .ne 26, 3) := by decide +kernel
theorem dX6_bars_132 : decode cX6_bars 132 = .ok (.aload_n 0, 1) := by decide +kernel
theorem dX6_bars_133 : decode cX6_bars 133 = .ok (.getfield 10, 3) := by decide +kernel
theorem dX6_bars_136 : decode cX6_bars 136 = .ok (.getfield 213, 3) := by decide +kernel
theorem dX6_bars_139 : decode cX6_bars 139 = .ok (.iload_n 2, 1) := by decide +kernel
theorem dX6_bars_140 : decode cX6_bars 140 = .ok (.invokevirtual 81, 3) := by decide +kernel
theorem dX6_bars_143 : decode cX6_bars 143 = .ok (.aload_n 0, 1) := by decide +kernel
theorem dX6_bars_144 : decode cX6_bars 144 = .ok (.getfield 256, 3) := by decide +kernel
theorem dX6_bars_147 : decode cX6_bars 147 = .ok (.if_icmp .ne 8, 3) := by decide +kernel
theorem dX6_bars_150 : decode cX6_bars 150 = .ok (.iload_n 1, 1) := by decide +kernel
theorem dX6_bars_151 : decode cX6_bars 151 = .ok (.bipush 16, 2) := by decide +kernel
theorem dX6_bars_153 : decode cX6_bars 153 = .ok (.ior, 1) := by decide +kernel
theorem dX6_bars_154 : decode cX6_bars 154 = .ok (.istore_n 1, 1) := by decide +kernel
theorem dX6_bars_155 : decode cX6_bars 155 = .ok (.iinc 2 1, 3) := by decide +kernel
theorem dX6_bars_158 : decode cX6_bars 158 = .ok (.goto (-52), 3) := by decide +kernel
theorem dX6_bars_161 : decode cX6_bars 161 = .ok (.aload_n 0, 1) := by decide +kernel
theorem dX6_bars_162 : decode cX6_bars 162 = .ok (.getfield 256, 3) := by decide +kernel
theorem dX6_bars_165 : decode cX6_bars 165 = .ok (.bipush 9, 2) := by decide +kernel
theorem dX6_bars_167 : decode cX6_bars 167 = .ok (.if_icmp .ne 8, 3) := by decide +kernel
theorem dX6_bars_170 : decode cX6_bars 170 = .ok (.iload_n 1, 1) := by decide +kernel
theorem dX6_bars_171 : decode cX6_bars 171 = .ok (.bipush 32, 2) := by decide +kernel
theorem dX6_bars_173 : decode cX6_bars 173 = .ok (.ior, 1) := by decide +kernel
theorem dX6_bars_174 : decode cX6_bars 174 = .ok (.istore_n 1, 1) := by decide +kernel
theorem dX6_bars_175 : decode cX6_bars 175 = .ok (.iload_n 1, 1) := by decide +kernel
theorem dX6_bars_176 : decode cX6_bars 176 = .ok (.ireturn, 1) := by decide +kernel
def pX6_bars_b175  (x1 : Int32) (v : St) : Option (Int32 × St) := some (x1, v)
def pX6_bars_b155 (K106 : Int32 → Int32 → St → Option (Int32 × St)) (x1 : Int32) (x2 : Int32) (v : St) : Option (Int32 × St) := K106 x1 (x2 + 1) v
def pX6_bars_b106  (n : Nat) : Int32 → Int32 → St → Option (Int32 × St) := Nat.rec (fun _ _ _ => none) (fun _ K106 x1 x2 v => if (v.2 6) ≤ x2 then (if (v.2 1) = 9 then (pX6_bars_b175 (x1 ||| 32) v) else (pX6_bars_b175 x1 v)) else (if (rg v 5 x2) = 1 then (if (rg v 2 x2) = (v.2 1) then (pX6_bars_b155 K106 (x1 ||| 16) x2 v) else (pX6_bars_b155 K106 x1 x2 v)) else (pX6_bars_b155 K106 x1 x2 v))) n
def pX6_bars_b98 (K72 : Int32 → Int32 → St → Option (Int32 × St)) (x1 : Int32) (x2 : Int32) (v : St) : Option (Int32 × St) := K72 x1 (x2 + 1) v
def pX6_bars_b72  (n : Nat) : Int32 → Int32 → St → Option (Int32 × St) := Nat.rec (fun _ _ _ => none) (fun _ K72 x1 x2 v => if 6 ≤ x2 then (pX6_bars_b106 100 x1 0 v) else (bnd (pX6_momentKept x2 v) (fun r15 w16 => if (if 0 ≤ r15 then r15 else 0 - r15) ≤ (w16.2 5) then (pX6_bars_b98 K72 x1 x2 w16) else (pX6_bars_b98 K72 (x1 ||| 8) x2 w16)))) n
def pX6_bars_b70  (x1 : Int32) (v : St) : Option (Int32 × St) := pX6_bars_b72 100 x1 1 v
def pX6_bars_b50  (x1 : Int32) (v : St) : Option (Int32 × St) := bnd (pX6_momentKept 6 v) (fun r6 w7 => if (if 0 ≤ r6 then r6 else 0 - r6) ≤ (w7.2 4) then (pX6_bars_b70 x1 w7) else (pX6_bars_b70 (x1 ||| 4) w7))
def pX6_bars_b25 (K4 : Int32 → Int32 → St → Option (Int32 × St)) (x1 : Int32) (x2 : Int32) (v : St) : Option (Int32 × St) := K4 x1 (x2 + 1) v
def pX6_bars_b4  (n : Nat) : Int32 → Int32 → St → Option (Int32 × St) := Nat.rec (fun _ _ _ => none) (fun _ K4 x1 x2 v => if 6 ≤ x2 then (bnd (pX6_momentKept 0 v) (fun r2 w3 => if (if 0 ≤ r2 then r2 else 0 - r2) ≤ (w3.2 3) then (pX6_bars_b50 x1 w3) else (pX6_bars_b50 (x1 ||| 2) w3))) else (bnd (pX4_isOpen x2 v) (fun r19 w20 => if r19 = 0 then (pX6_bars_b25 K4 x1 x2 w20) else (pX6_bars_b25 K4 (x1 ||| 1) x2 w20)))) n
def pX6_bars  (u : St) : Option (Int32 × St) := pX6_bars_b4 100 0 0 u
set_option maxHeartbeats 4000000 in
set_option maxRecDepth 20000 in
theorem kX6_bars {l : Launch} {D : va_G} {Y : Nat → ClassId} {q : Nat → Nat} {u u1 : St} {r : Int32} (hX : pX6_bars u = some (r, u1)) : CMi l yX6_bars cX6_bars 3 (some .int) 2 44 D Y (wC Y q u) (wC Y q u1) [.ref (q 0)] r := by
  refine cm_ofi (by decide) (Nat.le_of_ble_eq_true rfl) rfl (fun p e s m args below meth c A F hr hlk => ?_)
  show GW p l e { frames := 2, cells := 0, slots := 0, locals := 44 } s m args below meth c D A 3 0 0 (MQ below (QI D (wC Y q u1) r A) args s 0 0 A) (wC Y q u) 0 [(0, .ref (q 0))] []
  have b175 : ∀  (x1 : Int32) (v : St), pX6_bars_b175  x1 v = some (r, u1) → GW p l e { frames := 2, cells := 0, slots := 0, locals := 44 } s m args below meth c D A 3 0 0 (MQ below (QI D (wC Y q u1) r A) args s 0 0 A) (wC Y q v) 175 [(1, .int x1)] [] := by
    intro  x1 v hX
    have hX : (some (x1, v)) = some (r, u1) := hX
    refine g_iload_n F dX6_bars_175 0 rfl rfl ?_
    exact g_retC (wf := wC Y q) F hr rfl hlk dX6_bars_176 hX
  have b155 : ∀ (K106 : Int32 → Int32 → St → Option (Int32 × St)) (hK106 : ∀ (x1 : Int32) (x2 : Int32) (v : St), K106 x1 x2 v = some (r, u1) → GW p l e { frames := 2, cells := 0, slots := 0, locals := 44 } s m args below meth c D A 3 0 0 (MQ below (QI D (wC Y q u1) r A) args s 0 0 A) (wC Y q v) 106 [(0, .ref (q 0)), (1, .int x1), (2, .int x2)] []) (x1 : Int32) (x2 : Int32) (v : St), pX6_bars_b155 K106 x1 x2 v = some (r, u1) → GW p l e { frames := 2, cells := 0, slots := 0, locals := 44 } s m args below meth c D A 3 0 0 (MQ below (QI D (wC Y q u1) r A) args s 0 0 A) (wC Y q v) 155 [(0, .ref (q 0)), (1, .int x1), (2, .int x2)] [] := by
    intro K106 hK106 x1 x2 v hX
    have hX : (K106 x1 (x2 + 1) v) = some (r, u1) := hX
    refine g_iinc (v := x2 + 1) (lv' := [(2, .int (x2 + 1)), (0, .ref (q 0)), (1, .int x1)]) F dX6_bars_155 2 rfl rfl (by decide) rfl ?_
    refine g_goto (tgt := 106) F dX6_bars_158 (by decide) ?_
    refine g_sub [1, 2, 0] rfl ?_
    exact hK106 x1 (x2 + 1) v hX
  have b106 : ∀  (n : Nat) (x1 : Int32) (x2 : Int32) (v : St), pX6_bars_b106  n x1 x2 v = some (r, u1) → GW p l e { frames := 2, cells := 0, slots := 0, locals := 44 } s m args below meth c D A 3 0 0 (MQ below (QI D (wC Y q u1) r A) args s 0 0 A) (wC Y q v) 106 [(0, .ref (q 0)), (1, .int x1), (2, .int x2)] [] := by
    intro  n
    induction n with
    | zero => intro x1 x2 v hX; cases hX
    | succ n ih =>
      intro x1 x2 v hX
      obtain ⟨K106, eK⟩ : ∃ K : Int32 → Int32 → St → Option (Int32 × St), K = pX6_bars_b106  n := ⟨_, rfl⟩
      have hK106 : ∀ (x1 : Int32) (x2 : Int32) (v : St), K106 x1 x2 v = some (r, u1) → GW p l e { frames := 2, cells := 0, slots := 0, locals := 44 } s m args below meth c D A 3 0 0 (MQ below (QI D (wC Y q u1) r A) args s 0 0 A) (wC Y q v) 106 [(0, .ref (q 0)), (1, .int x1), (2, .int x2)] [] := by rw [eK]; exact ih
      have hX : (if (v.2 6) ≤ x2 then (if (v.2 1) = 9 then (pX6_bars_b175 (x1 ||| 32) v) else (pX6_bars_b175 x1 v)) else (if (rg v 5 x2) = 1 then (if (rg v 2 x2) = (v.2 1) then (pX6_bars_b155 K106 (x1 ||| 16) x2 v) else (pX6_bars_b155 K106 x1 x2 v)) else (pX6_bars_b155 K106 x1 x2 v))) = some (r, u1) := by rw [eK]; exact hX
      refine g_iload_n F dX6_bars_106 2 rfl rfl ?_
      refine g_aload_n F dX6_bars_107 0 rfl rfl ?_
      refine G_X6_10 F dX6_bars_108 ?_
      refine G_X6_169 F dX6_bars_111 ?_
      refine g_icmp_ge (tgt := 161) F dX6_bars_114 (by decide) (fun c11 => ?_) (fun c11 => ?_)
      · have hX := if_t hX c11
        refine g_aload_n F dX6_bars_161 0 rfl rfl ?_
        refine G_X6_256 F dX6_bars_162 ?_
        refine g_bipush (v := 9) F dX6_bars_165 (by decide) ?_
        refine g_icmp_ne (tgt := 175) F dX6_bars_167 (by decide) (fun c12 => ?_) (fun c12 => ?_)
        · have hX := if_f hX c12
          refine g_sub [1] rfl ?_
          exact b175 x1 v hX
        · have hX := if_t hX c12
          refine g_iload_n F dX6_bars_170 1 rfl rfl ?_
          refine g_bipush (v := 32) F dX6_bars_171 (by decide) ?_
          refine g_ior F dX6_bars_173 ?_
          refine g_istore_n (lv' := [(1, .int (x1 ||| 32)), (0, .ref (q 0)), (2, .int x2)]) F dX6_bars_174 rfl (by decide) rfl ?_
          refine g_sub [0] rfl ?_
          exact b175 (x1 ||| 32) v hX
      · have hX := if_f hX c11
        refine g_aload_n F dX6_bars_117 0 rfl rfl ?_
        refine G_X6_10 F dX6_bars_118 ?_
        refine G_X6_210 F dX6_bars_121 ?_
        refine g_iload_n F dX6_bars_124 2 rfl rfl ?_
        refine C_rget F 5 (by decide) ml_X6_81 ⟨Nat.le_of_ble_eq_true rfl, Nat.le_of_ble_eq_true rfl⟩ (Nat.le_of_ble_eq_true rfl) dX6_bars_125 ?_
        refine g_iconst (v := 1) F dX6_bars_128 (by decide) ?_
        refine g_icmp_ne (tgt := 155) F dX6_bars_129 (by decide) (fun c13 => ?_) (fun c13 => ?_)
        · have hX := if_f hX c13
          exact b155 K106 hK106 x1 x2 v hX
        · have hX := if_t hX c13
          refine g_aload_n F dX6_bars_132 0 rfl rfl ?_
          refine G_X6_10 F dX6_bars_133 ?_
          refine G_X6_213 F dX6_bars_136 ?_
          refine g_iload_n F dX6_bars_139 2 rfl rfl ?_
          refine C_rget F 2 (by decide) ml_X6_81 ⟨Nat.le_of_ble_eq_true rfl, Nat.le_of_ble_eq_true rfl⟩ (Nat.le_of_ble_eq_true rfl) dX6_bars_140 ?_
          refine g_aload_n F dX6_bars_143 0 rfl rfl ?_
          refine G_X6_256 F dX6_bars_144 ?_
          refine g_icmp_ne (tgt := 155) F dX6_bars_147 (by decide) (fun c14 => ?_) (fun c14 => ?_)
          · have hX := if_f hX c14
            exact b155 K106 hK106 x1 x2 v hX
          · have hX := if_t hX c14
            refine g_iload_n F dX6_bars_150 1 rfl rfl ?_
            refine g_bipush (v := 16) F dX6_bars_151 (by decide) ?_
            refine g_ior F dX6_bars_153 ?_
            refine g_istore_n (lv' := [(1, .int (x1 ||| 16)), (0, .ref (q 0)), (2, .int x2)]) F dX6_bars_154 rfl (by decide) rfl ?_
            refine g_sub [1, 0, 2] rfl ?_
            exact b155 K106 hK106 (x1 ||| 16) x2 v hX
  have b98 : ∀ (K72 : Int32 → Int32 → St → Option (Int32 × St)) (hK72 : ∀ (x1 : Int32) (x2 : Int32) (v : St), K72 x1 x2 v = some (r, u1) → GW p l e { frames := 2, cells := 0, slots := 0, locals := 44 } s m args below meth c D A 3 0 0 (MQ below (QI D (wC Y q u1) r A) args s 0 0 A) (wC Y q v) 72 [(0, .ref (q 0)), (1, .int x1), (2, .int x2)] []) (x1 : Int32) (x2 : Int32) (v : St), pX6_bars_b98 K72 x1 x2 v = some (r, u1) → GW p l e { frames := 2, cells := 0, slots := 0, locals := 44 } s m args below meth c D A 3 0 0 (MQ below (QI D (wC Y q u1) r A) args s 0 0 A) (wC Y q v) 98 [(0, .ref (q 0)), (1, .int x1), (2, .int x2)] [] := by
    intro K72 hK72 x1 x2 v hX
    have hX : (K72 x1 (x2 + 1) v) = some (r, u1) := hX
    refine g_iinc (v := x2 + 1) (lv' := [(2, .int (x2 + 1)), (0, .ref (q 0)), (1, .int x1)]) F dX6_bars_98 2 rfl rfl (by decide) rfl ?_
    refine g_goto (tgt := 72) F dX6_bars_101 (by decide) ?_
    refine g_sub [1, 2, 0] rfl ?_
    exact hK72 x1 (x2 + 1) v hX
  have b72 : ∀  (n : Nat) (x1 : Int32) (x2 : Int32) (v : St), pX6_bars_b72  n x1 x2 v = some (r, u1) → GW p l e { frames := 2, cells := 0, slots := 0, locals := 44 } s m args below meth c D A 3 0 0 (MQ below (QI D (wC Y q u1) r A) args s 0 0 A) (wC Y q v) 72 [(0, .ref (q 0)), (1, .int x1), (2, .int x2)] [] := by
    intro  n
    induction n with
    | zero => intro x1 x2 v hX; cases hX
    | succ n ih =>
      intro x1 x2 v hX
      obtain ⟨K72, eK⟩ : ∃ K : Int32 → Int32 → St → Option (Int32 × St), K = pX6_bars_b72  n := ⟨_, rfl⟩
      have hK72 : ∀ (x1 : Int32) (x2 : Int32) (v : St), K72 x1 x2 v = some (r, u1) → GW p l e { frames := 2, cells := 0, slots := 0, locals := 44 } s m args below meth c D A 3 0 0 (MQ below (QI D (wC Y q u1) r A) args s 0 0 A) (wC Y q v) 72 [(0, .ref (q 0)), (1, .int x1), (2, .int x2)] [] := by rw [eK]; exact ih
      have hX : (if 6 ≤ x2 then (pX6_bars_b106 100 x1 0 v) else (bnd (pX6_momentKept x2 v) (fun r15 w16 => if (if 0 ≤ r15 then r15 else 0 - r15) ≤ (w16.2 5) then (pX6_bars_b98 K72 x1 x2 w16) else (pX6_bars_b98 K72 (x1 ||| 8) x2 w16)))) = some (r, u1) := by rw [eK]; exact hX
      refine g_iload_n F dX6_bars_72 2 rfl rfl ?_
      refine g_bipush (v := 6) F dX6_bars_73 (by decide) ?_
      refine g_icmp_ge (tgt := 104) F dX6_bars_75 (by decide) (fun c10 => ?_) (fun c10 => ?_)
      · have hX := if_t hX c10
        refine g_iconst (v := 0) F dX6_bars_104 (by decide) ?_
        refine g_istore_n (lv' := [(2, .int 0), (0, .ref (q 0)), (1, .int x1)]) F dX6_bars_105 rfl (by decide) rfl ?_
        refine g_sub [1, 2, 0] rfl ?_
        exact b106 100 x1 0 v hX
      · have hX := if_f hX c10
        refine g_aload_n F dX6_bars_78 0 rfl rfl ?_
        refine g_iload_n F dX6_bars_79 2 rfl rfl ?_
        obtain ⟨r15, w16, hc17, hX⟩ := bnd_s hX
        refine callX6_momentKept F hc17 ml_X6_277 ⟨Nat.le_of_ble_eq_true rfl, Nat.le_of_ble_eq_true rfl⟩ (Nat.le_of_ble_eq_true rfl) dX6_bars_80 ?_
        refine g_abs F ml_X6_292 (Nat.le_of_ble_eq_true rfl) (Nat.le_of_ble_eq_true rfl) (Nat.zero_le _) (Nat.zero_le _) dX6_bars_83 ?_
        refine g_aload_n F dX6_bars_86 0 rfl rfl ?_
        refine G_X6_60 F dX6_bars_87 ?_
        refine g_icmp_le (tgt := 98) F dX6_bars_90 (by decide) (fun c18 => ?_) (fun c18 => ?_)
        · have hX := if_t hX c18
          exact b98 K72 hK72 x1 x2 w16 hX
        · have hX := if_f hX c18
          refine g_iload_n F dX6_bars_93 1 rfl rfl ?_
          refine g_bipush (v := 8) F dX6_bars_94 (by decide) ?_
          refine g_ior F dX6_bars_96 ?_
          refine g_istore_n (lv' := [(1, .int (x1 ||| 8)), (0, .ref (q 0)), (2, .int x2)]) F dX6_bars_97 rfl (by decide) rfl ?_
          refine g_sub [1, 0, 2] rfl ?_
          exact b98 K72 hK72 (x1 ||| 8) x2 w16 hX
  have b70 : ∀  (x1 : Int32) (v : St), pX6_bars_b70  x1 v = some (r, u1) → GW p l e { frames := 2, cells := 0, slots := 0, locals := 44 } s m args below meth c D A 3 0 0 (MQ below (QI D (wC Y q u1) r A) args s 0 0 A) (wC Y q v) 70 [(0, .ref (q 0)), (1, .int x1)] [] := by
    intro  x1 v hX
    have hX : (pX6_bars_b72 100 x1 1 v) = some (r, u1) := hX
    refine g_iconst (v := 1) F dX6_bars_70 (by decide) ?_
    refine g_istore_n (lv' := [(2, .int 1), (0, .ref (q 0)), (1, .int x1)]) F dX6_bars_71 rfl (by decide) rfl ?_
    refine g_sub [1, 2, 0] rfl ?_
    exact b72 100 x1 1 v hX
  have b50 : ∀  (x1 : Int32) (v : St), pX6_bars_b50  x1 v = some (r, u1) → GW p l e { frames := 2, cells := 0, slots := 0, locals := 44 } s m args below meth c D A 3 0 0 (MQ below (QI D (wC Y q u1) r A) args s 0 0 A) (wC Y q v) 50 [(0, .ref (q 0)), (1, .int x1)] [] := by
    intro  x1 v hX
    have hX : (bnd (pX6_momentKept 6 v) (fun r6 w7 => if (if 0 ≤ r6 then r6 else 0 - r6) ≤ (w7.2 4) then (pX6_bars_b70 x1 w7) else (pX6_bars_b70 (x1 ||| 4) w7))) = some (r, u1) := hX
    refine g_aload_n F dX6_bars_50 0 rfl rfl ?_
    refine g_bipush (v := 6) F dX6_bars_51 (by decide) ?_
    obtain ⟨r6, w7, hc8, hX⟩ := bnd_s hX
    refine callX6_momentKept F hc8 ml_X6_277 ⟨Nat.le_of_ble_eq_true rfl, Nat.le_of_ble_eq_true rfl⟩ (Nat.le_of_ble_eq_true rfl) dX6_bars_53 ?_
    refine g_abs F ml_X6_292 (Nat.le_of_ble_eq_true rfl) (Nat.le_of_ble_eq_true rfl) (Nat.zero_le _) (Nat.zero_le _) dX6_bars_56 ?_
    refine g_aload_n F dX6_bars_59 0 rfl rfl ?_
    refine G_X6_57 F dX6_bars_60 ?_
    refine g_icmp_le (tgt := 70) F dX6_bars_63 (by decide) (fun c9 => ?_) (fun c9 => ?_)
    · have hX := if_t hX c9
      exact b70 x1 w7 hX
    · have hX := if_f hX c9
      refine g_iload_n F dX6_bars_66 1 rfl rfl ?_
      refine g_iconst (v := 4) F dX6_bars_67 (by decide) ?_
      refine g_ior F dX6_bars_68 ?_
      refine g_istore_n (lv' := [(1, .int (x1 ||| 4)), (0, .ref (q 0))]) F dX6_bars_69 rfl (by decide) rfl ?_
      refine g_sub [1, 0] rfl ?_
      exact b70 (x1 ||| 4) w7 hX
  have b25 : ∀ (K4 : Int32 → Int32 → St → Option (Int32 × St)) (hK4 : ∀ (x1 : Int32) (x2 : Int32) (v : St), K4 x1 x2 v = some (r, u1) → GW p l e { frames := 2, cells := 0, slots := 0, locals := 44 } s m args below meth c D A 3 0 0 (MQ below (QI D (wC Y q u1) r A) args s 0 0 A) (wC Y q v) 4 [(0, .ref (q 0)), (1, .int x1), (2, .int x2)] []) (x1 : Int32) (x2 : Int32) (v : St), pX6_bars_b25 K4 x1 x2 v = some (r, u1) → GW p l e { frames := 2, cells := 0, slots := 0, locals := 44 } s m args below meth c D A 3 0 0 (MQ below (QI D (wC Y q u1) r A) args s 0 0 A) (wC Y q v) 25 [(0, .ref (q 0)), (1, .int x1), (2, .int x2)] [] := by
    intro K4 hK4 x1 x2 v hX
    have hX : (K4 x1 (x2 + 1) v) = some (r, u1) := hX
    refine g_iinc (v := x2 + 1) (lv' := [(2, .int (x2 + 1)), (0, .ref (q 0)), (1, .int x1)]) F dX6_bars_25 2 rfl rfl (by decide) rfl ?_
    refine g_goto (tgt := 4) F dX6_bars_28 (by decide) ?_
    refine g_sub [1, 2, 0] rfl ?_
    exact hK4 x1 (x2 + 1) v hX
  have b4 : ∀  (n : Nat) (x1 : Int32) (x2 : Int32) (v : St), pX6_bars_b4  n x1 x2 v = some (r, u1) → GW p l e { frames := 2, cells := 0, slots := 0, locals := 44 } s m args below meth c D A 3 0 0 (MQ below (QI D (wC Y q u1) r A) args s 0 0 A) (wC Y q v) 4 [(0, .ref (q 0)), (1, .int x1), (2, .int x2)] [] := by
    intro  n
    induction n with
    | zero => intro x1 x2 v hX; cases hX
    | succ n ih =>
      intro x1 x2 v hX
      obtain ⟨K4, eK⟩ : ∃ K : Int32 → Int32 → St → Option (Int32 × St), K = pX6_bars_b4  n := ⟨_, rfl⟩
      have hK4 : ∀ (x1 : Int32) (x2 : Int32) (v : St), K4 x1 x2 v = some (r, u1) → GW p l e { frames := 2, cells := 0, slots := 0, locals := 44 } s m args below meth c D A 3 0 0 (MQ below (QI D (wC Y q u1) r A) args s 0 0 A) (wC Y q v) 4 [(0, .ref (q 0)), (1, .int x1), (2, .int x2)] [] := by rw [eK]; exact ih
      have hX : (if 6 ≤ x2 then (bnd (pX6_momentKept 0 v) (fun r2 w3 => if (if 0 ≤ r2 then r2 else 0 - r2) ≤ (w3.2 3) then (pX6_bars_b50 x1 w3) else (pX6_bars_b50 (x1 ||| 2) w3))) else (bnd (pX4_isOpen x2 v) (fun r19 w20 => if r19 = 0 then (pX6_bars_b25 K4 x1 x2 w20) else (pX6_bars_b25 K4 (x1 ||| 1) x2 w20)))) = some (r, u1) := by rw [eK]; exact hX
      refine g_iload_n F dX6_bars_4 2 rfl rfl ?_
      refine g_bipush (v := 6) F dX6_bars_5 (by decide) ?_
      refine g_icmp_ge (tgt := 31) F dX6_bars_7 (by decide) (fun c1 => ?_) (fun c1 => ?_)
      · have hX := if_t hX c1
        refine g_aload_n F dX6_bars_31 0 rfl rfl ?_
        refine g_iconst (v := 0) F dX6_bars_32 (by decide) ?_
        obtain ⟨r2, w3, hc4, hX⟩ := bnd_s hX
        refine callX6_momentKept F hc4 ml_X6_277 ⟨Nat.le_of_ble_eq_true rfl, Nat.le_of_ble_eq_true rfl⟩ (Nat.le_of_ble_eq_true rfl) dX6_bars_33 ?_
        refine g_abs F ml_X6_292 (Nat.le_of_ble_eq_true rfl) (Nat.le_of_ble_eq_true rfl) (Nat.zero_le _) (Nat.zero_le _) dX6_bars_36 ?_
        refine g_aload_n F dX6_bars_39 0 rfl rfl ?_
        refine G_X6_53 F dX6_bars_40 ?_
        refine g_icmp_le (tgt := 50) F dX6_bars_43 (by decide) (fun c5 => ?_) (fun c5 => ?_)
        · have hX := if_t hX c5
          refine g_sub [0, 1] rfl ?_
          exact b50 x1 w3 hX
        · have hX := if_f hX c5
          refine g_iload_n F dX6_bars_46 1 rfl rfl ?_
          refine g_iconst (v := 2) F dX6_bars_47 (by decide) ?_
          refine g_ior F dX6_bars_48 ?_
          refine g_istore_n (lv' := [(1, .int (x1 ||| 2)), (0, .ref (q 0)), (2, .int x2)]) F dX6_bars_49 rfl (by decide) rfl ?_
          refine g_sub [1, 0] rfl ?_
          exact b50 (x1 ||| 2) w3 hX
      · have hX := if_f hX c1
        refine g_aload_n F dX6_bars_10 0 rfl rfl ?_
        refine G_X6_26 F dX6_bars_11 ?_
        refine g_iload_n F dX6_bars_14 2 rfl rfl ?_
        obtain ⟨r19, w20, hc21, hX⟩ := bnd_s hX
        refine callX4_isOpen F hc21 ml_X6_271 ⟨Nat.le_of_ble_eq_true rfl, Nat.le_of_ble_eq_true rfl⟩ (Nat.le_of_ble_eq_true rfl) dX6_bars_15 ?_
        refine g_if_eq (tgt := 25) F dX6_bars_18 (by decide) (fun c22 => ?_) (fun c22 => ?_)
        · have hX := if_t hX c22
          exact b25 K4 hK4 x1 x2 w20 hX
        · have hX := if_f hX c22
          refine g_iload_n F dX6_bars_21 1 rfl rfl ?_
          refine g_iconst (v := 1) F dX6_bars_22 (by decide) ?_
          refine g_ior F dX6_bars_23 ?_
          refine g_istore_n (lv' := [(1, .int (x1 ||| 1)), (0, .ref (q 0)), (2, .int x2)]) F dX6_bars_24 rfl (by decide) rfl ?_
          refine g_sub [1, 0, 2] rfl ?_
          exact b25 K4 hK4 (x1 ||| 1) x2 w20 hX
  have hX : (pX6_bars_b4 100 0 0 u) = some (r, u1) := hX
  refine g_iconst (v := 0) F dX6_bars_0 (by decide) ?_
  refine g_istore_n (lv' := [(1, .int 0), (0, .ref (q 0))]) F dX6_bars_1 rfl (by decide) rfl ?_
  refine g_iconst (v := 0) F dX6_bars_2 (by decide) ?_
  refine g_istore_n (lv' := [(2, .int 0), (1, .int 0), (0, .ref (q 0))]) F dX6_bars_3 rfl (by decide) rfl ?_
  refine g_sub [2, 1, 0] rfl ?_
  exact b4 100 0 0 u hX
theorem callX6_bars {p : Program} {l : Launch} {e : Env} {R : Room} {s : State} {m : MethodId} {args : Array Value} {below : List Frame} {meth : Method} {c : Code} {D : va_G} {Y : Nat → ClassId} {A : Nat → Prop} {cc : ByteArray} {nL : Nat} {own : String} {Q : State → Prop} {pc : Nat} {lv : List (Nat × Value)} {rest : List Value} {q : Nat → Nat} {u u1 : St} {r : Int32} (F : Fx p s m args c D Y A cc nL own) (hX : pX6_bars u = some (r, u1)) {index : Nat} (hml : Cond.methodLink own index yX6_bars ∈ TBL) (hR : 2 + 1 ≤ R.frames ∧ 8 + (3 + 11) + 44 ≤ R.locals) (hcat : (rest.map fun v => v.category).sum ≤ 8) (hd : decode cc pc = .ok (.invokevirtual index, 3)) (kk : GW p l e R s m args below meth c D A nL 0 0 Q (wC Y q u1) (pc + 3) lv (.int r :: rest)) : GW p l e R s m args below meth c D A nL 0 0 Q (wC Y q u) pc lv (.ref (q 0) :: rest) := g_callVi (ws := wC Y q u) (n := 0) (q0 := 0) (As := []) F [] [] (kX6_bars hX) (List.append_nil _).symm (List.append_nil _) (by unfold mOK; decide +kernel) rfl rfl cd_yX6_bars hml im_yX6_bars se_yX6_bars in_X6 rfl rfl hR ⟨Nat.zero_le _, Nat.zero_le _⟩ rfl hcat hd kk
theorem dX6_orders_0 : decode cX6_orders 0 = .ok (.aload_n 0, 1) := by decide +kernel
theorem dX6_orders_1 : decode cX6_orders 1 = .ok (.getfield 33, 3) := by decide +kernel
theorem dX6_orders_4 : decode cX6_orders 4 = .ok (.getfield 218, 3) := by decide +kernel
theorem dX6_orders_7 : decode cX6_orders 7 = .ok (.ireturn, 1) := by decide +kernel
def pX6_orders  (u : St) : Option (Int32 × St) := some (u.2 8, u)
set_option maxHeartbeats 4000000 in
set_option maxRecDepth 20000 in
theorem kX6_orders {l : Launch} {D : va_G} {Y : Nat → ClassId} {q : Nat → Nat} {u u1 : St} {r : Int32} (hX : pX6_orders u = some (r, u1)) : CMi l yX6_orders cX6_orders 1 (some .int) 0 0 D Y (wC Y q u) (wC Y q u1) [.ref (q 0)] r := by
  refine cm_ofi (by decide) (Nat.le_of_ble_eq_true rfl) rfl (fun p e s m args below meth c A F hr hlk => ?_)
  show GW p l e { frames := 0, cells := 0, slots := 0, locals := 0 } s m args below meth c D A 1 0 0 (MQ below (QI D (wC Y q u1) r A) args s 0 0 A) (wC Y q u) 0 [(0, .ref (q 0))] []
  have hX : (some (u.2 8, u)) = some (r, u1) := hX
  refine g_aload_n F dX6_orders_0 0 rfl rfl ?_
  refine G_X6_33 F dX6_orders_1 ?_
  refine G_X6_218 F dX6_orders_4 ?_
  exact g_retC (wf := wC Y q) F hr rfl hlk dX6_orders_7 hX
theorem callX6_orders {p : Program} {l : Launch} {e : Env} {R : Room} {s : State} {m : MethodId} {args : Array Value} {below : List Frame} {meth : Method} {c : Code} {D : va_G} {Y : Nat → ClassId} {A : Nat → Prop} {cc : ByteArray} {nL : Nat} {own : String} {Q : State → Prop} {pc : Nat} {lv : List (Nat × Value)} {rest : List Value} {q : Nat → Nat} {u u1 : St} {r : Int32} (F : Fx p s m args c D Y A cc nL own) (hX : pX6_orders u = some (r, u1)) {index : Nat} (hml : Cond.methodLink own index yX6_orders ∈ TBL) (hR : 0 + 1 ≤ R.frames ∧ 8 + (1 + 11) + 0 ≤ R.locals) (hcat : (rest.map fun v => v.category).sum ≤ 8) (hd : decode cc pc = .ok (.invokevirtual index, 3)) (kk : GW p l e R s m args below meth c D A nL 0 0 Q (wC Y q u1) (pc + 3) lv (.int r :: rest)) : GW p l e R s m args below meth c D A nL 0 0 Q (wC Y q u) pc lv (.ref (q 0) :: rest) := g_callVi (ws := wC Y q u) (n := 0) (q0 := 0) (As := []) F [] [] (kX6_orders hX) (List.append_nil _).symm (List.append_nil _) (by unfold mOK; decide +kernel) rfl rfl cd_yX6_orders hml im_yX6_orders se_yX6_orders in_X6 rfl rfl hR ⟨Nat.zero_le _, Nat.zero_le _⟩ rfl hcat hd kk
