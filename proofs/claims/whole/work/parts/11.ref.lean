/-! the reference's private methods (by program: wip/whole/gen/gen.py) -/
theorem dX7_thrown_0 : decode cX7_thrown 0 = .ok (.aload_n 0, 1) := by decide +kernel
theorem dX7_thrown_1 : decode cX7_thrown 1 = .ok (.getfield 87, 3) := by decide +kernel
theorem dX7_thrown_4 : decode cX7_thrown 4 = .ok (.ireturn, 1) := by decide +kernel
def pX7_thrown  (u : St) : Option (Int32 × St) := some (u.2 0, u)
set_option maxHeartbeats 4000000 in
set_option maxRecDepth 20000 in
theorem kX7_thrown {l : Launch} {D : va_G} {Y : Nat → ClassId} {q : Nat → Nat} {u u1 : St} {r : Int32} (hX : pX7_thrown u = some (r, u1)) : CMi l yX7_thrown cX7_thrown 1 (some .int) 0 0 D Y (wM Y q u) (wM Y q u1) [.ref (q 0)] r := by
  refine cm_ofi (by decide) (Nat.le_of_ble_eq_true rfl) rfl (fun p e s m args below meth c A F hr hlk => ?_)
  show GW p l e { frames := 0, cells := 0, slots := 0, locals := 0 } s m args below meth c D A 1 0 0 (MQ below (QI D (wM Y q u1) r A) args s 0 0 A) (wM Y q u) 0 [(0, .ref (q 0))] []
  have hX : (some (u.2 0, u)) = some (r, u1) := hX
  refine g_aload_n F dX7_thrown_0 0 rfl rfl ?_
  refine G_X7_87 F dX7_thrown_1 ?_
  exact g_retC (wf := wM Y q) F hr rfl hlk dX7_thrown_4 hX
theorem callX7_thrown {p : Program} {l : Launch} {e : Env} {R : Room} {s : State} {m : MethodId} {args : Array Value} {below : List Frame} {meth : Method} {c : Code} {D : va_G} {Y : Nat → ClassId} {A : Nat → Prop} {cc : ByteArray} {nL : Nat} {own : String} {Q : State → Prop} {pc : Nat} {lv : List (Nat × Value)} {rest : List Value} {q : Nat → Nat} {u u1 : St} {r : Int32} (F : Fx p s m args c D Y A cc nL own) (hX : pX7_thrown u = some (r, u1)) {index : Nat} (hml : Cond.methodLink own index yX7_thrown ∈ TBL) (hR : 0 + 1 ≤ R.frames ∧ 8 + (1 + 11) + 0 ≤ R.locals) (hcat : (rest.map fun v => v.category).sum ≤ 8) (hd : decode cc pc = .ok (.invokevirtual index, 3)) (kk : GW p l e R s m args below meth c D A nL 0 0 Q (wM Y q u1) (pc + 3) lv (.int r :: rest)) : GW p l e R s m args below meth c D A nL 0 0 Q (wM Y q u) pc lv (.ref (q 0) :: rest) := g_callVi (ws := wM Y q u) (n := 0) (q0 := 0) (As := []) F [] [] (kX7_thrown hX) (List.append_nil _).symm (List.append_nil _) (by unfold mOK; decide +kernel) rfl rfl cd_yX7_thrown hml im_yX7_thrown se_yX7_thrown in_X7 rfl rfl hR ⟨Nat.zero_le _, Nat.zero_le _⟩ rfl hcat hd kk
theorem dX7_isBox_0 : decode cX7_isBox 0 = .ok (.iload_n 1, 1) := by decide +kernel
theorem dX7_isBox_1 : decode cX7_isBox 1 = .ok (.iconst 0, 1) := by decide +kernel
theorem dX7_isBox_2 : decode cX7_isBox 2 = .ok (.aload_n 0, 1) := by decide +kernel
theorem dX7_isBox_3 : decode cX7_isBox 3 = .ok (.getfield 94, 3) := by decide +kernel
theorem dX7_isBox_6 : decode cX7_isBox 6 = .ok (.iconst 1, 1) := by decide +kernel
theorem dX7_isBox_7 : decode cX7_isBox 7 = .ok (.isub, 1) := by decide +kernel
theorem dX7_isBox_8 : decode cX7_isBox 8 = .ok (.invokestatic 90, 3) := by decide +kernel
theorem dX7_isBox_11 : decode cX7_isBox 11 = .ok (.ireturn, 1) := by decide +kernel
def pX7_isBox (a1 : Int32) (u : St) : Option (Int32 × St) := if (pX7_in a1 0 ((u.2 4) - 1)) = 0 ∨ (pX7_in a1 0 ((u.2 4) - 1)) = 1 then some (pX7_in a1 0 ((u.2 4) - 1), u) else none
set_option maxHeartbeats 4000000 in
set_option maxRecDepth 20000 in
theorem kX7_isBox {l : Launch} {D : va_G} {Y : Nat → ClassId} {q : Nat → Nat} {a1 : Int32} {u u1 : St} {r : Int32} (hX : pX7_isBox a1 u = some (r, u1)) : CMi l yX7_isBox cX7_isBox 2 (some .boolean) 1 22 D Y (wM Y q u) (wM Y q u1) [.ref (q 0), .int a1] r := by
  refine cm_ofi (by decide) (Nat.le_of_ble_eq_true rfl) rfl (fun p e s m args below meth c A F hr hlk => ?_)
  show GW p l e { frames := 1, cells := 0, slots := 0, locals := 22 } s m args below meth c D A 2 0 0 (MQ below (QI D (wM Y q u1) r A) args s 0 0 A) (wM Y q u) 0 [(0, .ref (q 0)), (1, .int a1)] []
  have hX : (if (pX7_in a1 0 ((u.2 4) - 1)) = 0 ∨ (pX7_in a1 0 ((u.2 4) - 1)) = 1 then some (pX7_in a1 0 ((u.2 4) - 1), u) else none) = some (r, u1) := hX
  refine g_iload_n F dX7_isBox_0 1 rfl rfl ?_
  refine g_iconst (v := 0) F dX7_isBox_1 (by decide) ?_
  refine g_aload_n F dX7_isBox_2 0 rfl rfl ?_
  refine G_X7_94 F dX7_isBox_3 ?_
  refine g_iconst (v := 1) F dX7_isBox_6 (by decide) ?_
  refine g_isub F dX7_isBox_7 ?_
  refine callX7_in F ml_X7_90 ⟨Nat.le_of_ble_eq_true rfl, Nat.le_of_ble_eq_true rfl⟩ (Nat.le_of_ble_eq_true rfl) dX7_isBox_8 ?_
  exact g_retCb (wf := wM Y q) F hr hlk dX7_isBox_11 hX
theorem callX7_isBox {p : Program} {l : Launch} {e : Env} {R : Room} {s : State} {m : MethodId} {args : Array Value} {below : List Frame} {meth : Method} {c : Code} {D : va_G} {Y : Nat → ClassId} {A : Nat → Prop} {cc : ByteArray} {nL : Nat} {own : String} {Q : State → Prop} {pc : Nat} {lv : List (Nat × Value)} {rest : List Value} {q : Nat → Nat} {a1 : Int32} {u u1 : St} {r : Int32} (F : Fx p s m args c D Y A cc nL own) (hX : pX7_isBox a1 u = some (r, u1)) {index : Nat} (hml : Cond.methodLink own index yX7_isBox ∈ TBL) (hR : 1 + 1 ≤ R.frames ∧ 8 + (2 + 11) + 22 ≤ R.locals) (hcat : (rest.map fun v => v.category).sum ≤ 8) (hd : decode cc pc = .ok (.invokevirtual index, 3)) (kk : GW p l e R s m args below meth c D A nL 0 0 Q (wM Y q u1) (pc + 3) lv (.int r :: rest)) : GW p l e R s m args below meth c D A nL 0 0 Q (wM Y q u) pc lv (.int a1 :: .ref (q 0) :: rest) := g_callVi (ws := wM Y q u) (n := 1) (q0 := 0) (As := [.int a1]) F [] [] (kX7_isBox hX) (List.append_nil _).symm (List.append_nil _) (by unfold mOK; decide +kernel) rfl rfl cd_yX7_isBox hml im_yX7_isBox se_yX7_isBox in_X7 rfl rfl hR ⟨Nat.zero_le _, Nat.zero_le _⟩ rfl hcat hd kk
theorem dX7_isOrder_0 : decode cX7_isOrder 0 = .ok (.iload_n 1, 1) := by decide +kernel
theorem dX7_isOrder_1 : decode cX7_isOrder 1 = .ok (.iconst 0, 1) := by decide +kernel
theorem dX7_isOrder_2 : decode cX7_isOrder 2 = .ok (.aload_n 0, 1) := by decide +kernel
theorem dX7_isOrder_3 : decode cX7_isOrder 3 = .ok (.getfield 97, 3) := by decide +kernel
theorem dX7_isOrder_6 : decode cX7_isOrder 6 = .ok (.iconst 1, 1) := by decide +kernel
theorem dX7_isOrder_7 : decode cX7_isOrder 7 = .ok (.isub, 1) := by decide +kernel
theorem dX7_isOrder_8 : decode cX7_isOrder 8 = .ok (.invokestatic 90, 3) := by decide +kernel
theorem dX7_isOrder_11 : decode cX7_isOrder 11 = .ok (.ireturn, 1) := by decide +kernel
def pX7_isOrder (a1 : Int32) (u : St) : Option (Int32 × St) := if (pX7_in a1 0 ((u.2 6) - 1)) = 0 ∨ (pX7_in a1 0 ((u.2 6) - 1)) = 1 then some (pX7_in a1 0 ((u.2 6) - 1), u) else none
set_option maxHeartbeats 4000000 in
set_option maxRecDepth 20000 in
theorem kX7_isOrder {l : Launch} {D : va_G} {Y : Nat → ClassId} {q : Nat → Nat} {a1 : Int32} {u u1 : St} {r : Int32} (hX : pX7_isOrder a1 u = some (r, u1)) : CMi l yX7_isOrder cX7_isOrder 2 (some .boolean) 1 22 D Y (wM Y q u) (wM Y q u1) [.ref (q 0), .int a1] r := by
  refine cm_ofi (by decide) (Nat.le_of_ble_eq_true rfl) rfl (fun p e s m args below meth c A F hr hlk => ?_)
  show GW p l e { frames := 1, cells := 0, slots := 0, locals := 22 } s m args below meth c D A 2 0 0 (MQ below (QI D (wM Y q u1) r A) args s 0 0 A) (wM Y q u) 0 [(0, .ref (q 0)), (1, .int a1)] []
  have hX : (if (pX7_in a1 0 ((u.2 6) - 1)) = 0 ∨ (pX7_in a1 0 ((u.2 6) - 1)) = 1 then some (pX7_in a1 0 ((u.2 6) - 1), u) else none) = some (r, u1) := hX
  refine g_iload_n F dX7_isOrder_0 1 rfl rfl ?_
  refine g_iconst (v := 0) F dX7_isOrder_1 (by decide) ?_
  refine g_aload_n F dX7_isOrder_2 0 rfl rfl ?_
  refine G_X7_97 F dX7_isOrder_3 ?_
  refine g_iconst (v := 1) F dX7_isOrder_6 (by decide) ?_
  refine g_isub F dX7_isOrder_7 ?_
  refine callX7_in F ml_X7_90 ⟨Nat.le_of_ble_eq_true rfl, Nat.le_of_ble_eq_true rfl⟩ (Nat.le_of_ble_eq_true rfl) dX7_isOrder_8 ?_
  exact g_retCb (wf := wM Y q) F hr hlk dX7_isOrder_11 hX
theorem callX7_isOrder {p : Program} {l : Launch} {e : Env} {R : Room} {s : State} {m : MethodId} {args : Array Value} {below : List Frame} {meth : Method} {c : Code} {D : va_G} {Y : Nat → ClassId} {A : Nat → Prop} {cc : ByteArray} {nL : Nat} {own : String} {Q : State → Prop} {pc : Nat} {lv : List (Nat × Value)} {rest : List Value} {q : Nat → Nat} {a1 : Int32} {u u1 : St} {r : Int32} (F : Fx p s m args c D Y A cc nL own) (hX : pX7_isOrder a1 u = some (r, u1)) {index : Nat} (hml : Cond.methodLink own index yX7_isOrder ∈ TBL) (hR : 1 + 1 ≤ R.frames ∧ 8 + (2 + 11) + 22 ≤ R.locals) (hcat : (rest.map fun v => v.category).sum ≤ 8) (hd : decode cc pc = .ok (.invokevirtual index, 3)) (kk : GW p l e R s m args below meth c D A nL 0 0 Q (wM Y q u1) (pc + 3) lv (.int r :: rest)) : GW p l e R s m args below meth c D A nL 0 0 Q (wM Y q u) pc lv (.int a1 :: .ref (q 0) :: rest) := g_callVi (ws := wM Y q u) (n := 1) (q0 := 0) (As := [.int a1]) F [] [] (kX7_isOrder hX) (List.append_nil _).symm (List.append_nil _) (by unfold mOK; decide +kernel) rfl rfl cd_yX7_isOrder hml im_yX7_isOrder se_yX7_isOrder in_X7 rfl rfl hR ⟨Nat.zero_le _, Nat.zero_le _⟩ rfl hcat hd kk
theorem dX7_isAhead_0 : decode cX7_isAhead 0 = .ok (.iload_n 1, 1) := by decide +kernel
theorem dX7_isAhead_1 : decode cX7_isAhead 1 = .ok (.aload_n 0, 1) := by decide +kernel
theorem dX7_isAhead_2 : decode cX7_isAhead 2 = .ok (.getfield 100, 3) := by decide +kernel
theorem dX7_isAhead_5 : decode cX7_isAhead 5 = .ok (.if_icmp .le 16, 3) := by decide +kernel
theorem dX7_isAhead_8 : decode cX7_isAhead 8 = .ok (.aload_n 0, 1) := by decide +kernel
theorem dX7_isAhead_9 : decode cX7_isAhead 9 = .ok (.getfield 63, 3) := by decide +kernel
theorem dX7_isAhead_12 : decode cX7_isAhead 12 = .ok (.iload_n 1, 1) := by decide +kernel
theorem dX7_isAhead_13 : decode cX7_isAhead 13 = .ok (.baload, 1) := by decide +kernel
theorem dX7_isAhead_14 : decode cX7_isAhead 14 = .ok (.ifCond .ne 7, 3) := by decide +kernel
theorem dX7_isAhead_17 : decode cX7_isAhead 17 = .ok (.iconst 1, 1) := by decide +kernel
theorem dX7_isAhead_18 : decode cX7_isAhead 18 = .ok (.goto 4, 3) := by decide +kernel
theorem dX7_isAhead_21 : decode cX7_isAhead 21 = .ok (.iconst 0, 1) := by decide +kernel
theorem dX7_isAhead_22 : decode cX7_isAhead 22 = .ok (.ireturn, 1) := by decide +kernel
def pX7_isAhead_b21   (v : St) : Option (Int32 × St) := some (0, v)
def pX7_isAhead (a1 : Int32) (u : St) : Option (Int32 × St) := if a1 ≤ (u.2 5) then (pX7_isAhead_b21 u) else (if (a1 < 0 ∨ 10 ≤ a1.toNatClampNeg) then none else (if (u.1 14 a1.toNatClampNeg) = 0 then (some (1, u)) else (pX7_isAhead_b21 u)))
set_option maxHeartbeats 4000000 in
set_option maxRecDepth 20000 in
theorem kX7_isAhead {l : Launch} {D : va_G} {Y : Nat → ClassId} {q : Nat → Nat} {a1 : Int32} {u u1 : St} {r : Int32} (hX : pX7_isAhead a1 u = some (r, u1)) : CMi l yX7_isAhead cX7_isAhead 2 (some .boolean) 0 0 D Y (wM Y q u) (wM Y q u1) [.ref (q 0), .int a1] r := by
  refine cm_ofi (by decide) (Nat.le_of_ble_eq_true rfl) rfl (fun p e s m args below meth c A F hr hlk => ?_)
  show GW p l e { frames := 0, cells := 0, slots := 0, locals := 0 } s m args below meth c D A 2 0 0 (MQ below (QI D (wM Y q u1) r A) args s 0 0 A) (wM Y q u) 0 [(0, .ref (q 0)), (1, .int a1)] []
  have b21 : ∀   (v : St), pX7_isAhead_b21  v = some (r, u1) → GW p l e { frames := 0, cells := 0, slots := 0, locals := 0 } s m args below meth c D A 2 0 0 (MQ below (QI D (wM Y q u1) r A) args s 0 0 A) (wM Y q v) 21 [] [] := by
    intro  v hX
    have hX : (some (0, v)) = some (r, u1) := hX
    refine g_iconst (v := 0) F dX7_isAhead_21 (by decide) ?_
    exact g_retC (wf := wM Y q) F hr rfl hlk dX7_isAhead_22 hX
  have hX : (if a1 ≤ (u.2 5) then (pX7_isAhead_b21 u) else (if (a1 < 0 ∨ 10 ≤ a1.toNatClampNeg) then none else (if (u.1 14 a1.toNatClampNeg) = 0 then (some (1, u)) else (pX7_isAhead_b21 u)))) = some (r, u1) := hX
  refine g_iload_n F dX7_isAhead_0 1 rfl rfl ?_
  refine g_aload_n F dX7_isAhead_1 0 rfl rfl ?_
  refine G_X7_100 F dX7_isAhead_2 ?_
  refine g_icmp_le (tgt := 21) F dX7_isAhead_5 (by decide) (fun c1 => ?_) (fun c1 => ?_)
  · have hX := if_t hX c1
    refine g_sub [] rfl ?_
    exact b21 u hX
  · have hX := if_f hX c1
    refine g_aload_n F dX7_isAhead_8 0 rfl rfl ?_
    refine G_X7_63 F dX7_isAhead_9 ?_
    refine g_iload_n F dX7_isAhead_12 1 rfl rfl ?_
    obtain ⟨hI2, hX⟩ := inb hX
    refine AL_14 F hI2 dX7_isAhead_13 ?_
    refine g_if_ne (tgt := 21) F dX7_isAhead_14 (by decide) (fun c3 => ?_) (fun c3 => ?_)
    · have hX := if_f hX c3
      refine g_sub [] rfl ?_
      exact b21 u hX
    · have hX := if_t hX c3
      refine g_iconst (v := 1) F dX7_isAhead_17 (by decide) ?_
      refine g_goto (tgt := 22) F dX7_isAhead_18 (by decide) ?_
      exact g_retC (wf := wM Y q) F hr rfl hlk dX7_isAhead_22 hX
theorem callX7_isAhead {p : Program} {l : Launch} {e : Env} {R : Room} {s : State} {m : MethodId} {args : Array Value} {below : List Frame} {meth : Method} {c : Code} {D : va_G} {Y : Nat → ClassId} {A : Nat → Prop} {cc : ByteArray} {nL : Nat} {own : String} {Q : State → Prop} {pc : Nat} {lv : List (Nat × Value)} {rest : List Value} {q : Nat → Nat} {a1 : Int32} {u u1 : St} {r : Int32} (F : Fx p s m args c D Y A cc nL own) (hX : pX7_isAhead a1 u = some (r, u1)) {index : Nat} (hml : Cond.methodLink own index yX7_isAhead ∈ TBL) (hR : 0 + 1 ≤ R.frames ∧ 8 + (2 + 11) + 0 ≤ R.locals) (hcat : (rest.map fun v => v.category).sum ≤ 8) (hd : decode cc pc = .ok (.invokevirtual index, 3)) (kk : GW p l e R s m args below meth c D A nL 0 0 Q (wM Y q u1) (pc + 3) lv (.int r :: rest)) : GW p l e R s m args below meth c D A nL 0 0 Q (wM Y q u) pc lv (.int a1 :: .ref (q 0) :: rest) := g_callVi (ws := wM Y q u) (n := 1) (q0 := 0) (As := [.int a1]) F [] [] (kX7_isAhead hX) (List.append_nil _).symm (List.append_nil _) (by unfold mOK; decide +kernel) rfl rfl cd_yX7_isAhead hml im_yX7_isAhead se_yX7_isAhead in_X7 rfl rfl hR ⟨Nat.zero_le _, Nat.zero_le _⟩ rfl hcat hd kk
theorem dX7_isHeld_0 : decode cX7_isHeld 0 = .ok (.aload_n 0, 1) := by decide +kernel
theorem dX7_isHeld_1 : decode cX7_isHeld 1 = .ok (.getfield 48, 3) := by decide +kernel
theorem dX7_isHeld_4 : decode cX7_isHeld 4 = .ok (.iload_n 1, 1) := by decide +kernel
theorem dX7_isHeld_5 : decode cX7_isHeld 5 = .ok (.iaload, 1) := by decide +kernel
theorem dX7_isHeld_6 : decode cX7_isHeld 6 = .ok (.bipush 7, 2) := by decide +kernel
theorem dX7_isHeld_8 : decode cX7_isHeld 8 = .ok (.if_icmp .eq 7, 3) := by decide +kernel
theorem dX7_isHeld_11 : decode cX7_isHeld 11 = .ok (.iconst 1, 1) := by decide +kernel
theorem dX7_isHeld_12 : decode cX7_isHeld 12 = .ok (.goto 4, 3) := by decide +kernel
theorem dX7_isHeld_15 : decode cX7_isHeld 15 = .ok (.iconst 0, 1) := by decide +kernel
theorem dX7_isHeld_16 : decode cX7_isHeld 16 = .ok (.ireturn, 1) := by decide +kernel
def pX7_isHeld (a1 : Int32) (u : St) : Option (Int32 × St) := if (a1 < 0 ∨ 60 ≤ a1.toNatClampNeg) then none else (if (u.1 9 a1.toNatClampNeg) = 7 then (some (0, u)) else (some (1, u)))
set_option maxHeartbeats 4000000 in
set_option maxRecDepth 20000 in
theorem kX7_isHeld {l : Launch} {D : va_G} {Y : Nat → ClassId} {q : Nat → Nat} {a1 : Int32} {u u1 : St} {r : Int32} (hX : pX7_isHeld a1 u = some (r, u1)) : CMi l yX7_isHeld cX7_isHeld 2 (some .boolean) 0 0 D Y (wM Y q u) (wM Y q u1) [.ref (q 0), .int a1] r := by
  refine cm_ofi (by decide) (Nat.le_of_ble_eq_true rfl) rfl (fun p e s m args below meth c A F hr hlk => ?_)
  show GW p l e { frames := 0, cells := 0, slots := 0, locals := 0 } s m args below meth c D A 2 0 0 (MQ below (QI D (wM Y q u1) r A) args s 0 0 A) (wM Y q u) 0 [(0, .ref (q 0)), (1, .int a1)] []
  have hX : (if (a1 < 0 ∨ 60 ≤ a1.toNatClampNeg) then none else (if (u.1 9 a1.toNatClampNeg) = 7 then (some (0, u)) else (some (1, u)))) = some (r, u1) := hX
  refine g_aload_n F dX7_isHeld_0 0 rfl rfl ?_
  refine G_X7_48 F dX7_isHeld_1 ?_
  refine g_iload_n F dX7_isHeld_4 1 rfl rfl ?_
  obtain ⟨hI1, hX⟩ := inb hX
  refine AL_9 F hI1 dX7_isHeld_5 ?_
  refine g_bipush (v := 7) F dX7_isHeld_6 (by decide) ?_
  refine g_icmp_eq (tgt := 15) F dX7_isHeld_8 (by decide) (fun c2 => ?_) (fun c2 => ?_)
  · have hX := if_t hX c2
    refine g_iconst (v := 0) F dX7_isHeld_15 (by decide) ?_
    exact g_retC (wf := wM Y q) F hr rfl hlk dX7_isHeld_16 hX
  · have hX := if_f hX c2
    refine g_iconst (v := 1) F dX7_isHeld_11 (by decide) ?_
    refine g_goto (tgt := 16) F dX7_isHeld_12 (by decide) ?_
    exact g_retC (wf := wM Y q) F hr rfl hlk dX7_isHeld_16 hX
theorem callX7_isHeld {p : Program} {l : Launch} {e : Env} {R : Room} {s : State} {m : MethodId} {args : Array Value} {below : List Frame} {meth : Method} {c : Code} {D : va_G} {Y : Nat → ClassId} {A : Nat → Prop} {cc : ByteArray} {nL : Nat} {own : String} {Q : State → Prop} {pc : Nat} {lv : List (Nat × Value)} {rest : List Value} {q : Nat → Nat} {a1 : Int32} {u u1 : St} {r : Int32} (F : Fx p s m args c D Y A cc nL own) (hX : pX7_isHeld a1 u = some (r, u1)) {index : Nat} (hml : Cond.methodLink own index yX7_isHeld ∈ TBL) (hR : 0 + 1 ≤ R.frames ∧ 8 + (2 + 11) + 0 ≤ R.locals) (hcat : (rest.map fun v => v.category).sum ≤ 8) (hd : decode cc pc = .ok (.invokevirtual index, 3)) (kk : GW p l e R s m args below meth c D A nL 0 0 Q (wM Y q u1) (pc + 3) lv (.int r :: rest)) : GW p l e R s m args below meth c D A nL 0 0 Q (wM Y q u) pc lv (.int a1 :: .ref (q 0) :: rest) := g_callVi (ws := wM Y q u) (n := 1) (q0 := 0) (As := [.int a1]) F [] [] (kX7_isHeld hX) (List.append_nil _).symm (List.append_nil _) (by unfold mOK; decide +kernel) rfl rfl cd_yX7_isHeld hml im_yX7_isHeld se_yX7_isHeld in_X7 rfl rfl hR ⟨Nat.zero_le _, Nat.zero_le _⟩ rfl hcat hd kk
theorem dX7_hasOnTop_0 : decode cX7_hasOnTop 0 = .ok (.iconst 0, 1) := by decide +kernel
theorem dX7_hasOnTop_1 : decode cX7_hasOnTop 1 = .ok (.istore_n 2, 1) := by decide +kernel
theorem dX7_hasOnTop_2 : decode cX7_hasOnTop 2 = .ok (.iconst 0, 1) := by decide +kernel
theorem dX7_hasOnTop_3 : decode cX7_hasOnTop 3 = .ok (.istore_n 3, 1) := by decide +kernel
theorem dX7_hasOnTop_4 : decode cX7_hasOnTop 4 = .ok (.iload_n 3, 1) := by decide +kernel
theorem dX7_hasOnTop_5 : decode cX7_hasOnTop 5 = .ok (.bipush 12, 2) := by decide +kernel
theorem dX7_hasOnTop_7 : decode cX7_hasOnTop 7 = .ok (.if_icmp .ge 41, 3) := by decide +kernel
theorem dX7_hasOnTop_10 : decode cX7_hasOnTop 10 = .ok (.iload_n 2, 1) := by decide +kernel
theorem dX7_hasOnTop_11 : decode cX7_hasOnTop 11 = .ok (.ifCond .ne 25, 3) := by decide +kernel
theorem dX7_hasOnTop_14 : decode cX7_hasOnTop 14 = .ok (.iload_n 3, 1) := by decide +kernel
theorem dX7_hasOnTop_15 : decode cX7_hasOnTop 15 = .ok (.iconst 4, 1) := by decide +kernel
theorem dX7_hasOnTop_16 : decode cX7_hasOnTop 16 = .ok (.irem, 1) := by decide +kernel
theorem dX7_hasOnTop_17 : decode cX7_hasOnTop 17 = .ok (.iconst 1, 1) := by decide +kernel
theorem dX7_hasOnTop_18 : decode cX7_hasOnTop 18 = .ok (.if_icmp .le 22, 3) := by decide +kernel
theorem dX7_hasOnTop_21 : decode cX7_hasOnTop 21 = .ok (.aload_n 0, 1) := by decide +kernel
theorem dX7_hasOnTop_22 : decode cX7_hasOnTop 22 = .ok (.getfield 7, 3) := by decide +kernel
theorem dX7_hasOnTop_25 : decode cX7_hasOnTop 25 = .ok (.bipush 12, 2) := by decide +kernel
theorem dX7_hasOnTop_27 : decode cX7_hasOnTop 27 = .ok (.iload_n 1, 1) := by decide +kernel
theorem dX7_hasOnTop_28 : decode cX7_hasOnTop 28 = .ok (.imul, 1) := by decide +kernel
theorem dX7_hasOnTop_29 : decode cX7_hasOnTop 29 = .ok (.iload_n 3, 1) := by decide +kernel
theorem dX7_hasOnTop_30 : decode cX7_hasOnTop 30 = .ok (.iadd, 1) := by decide +kernel
theorem dX7_hasOnTop_31 : decode cX7_hasOnTop 31 = .ok (.iaload, 1) := by decide +kernel
theorem dX7_hasOnTop_32 : decode cX7_hasOnTop 32 = .ok (.iconst (-1), 1) := by decide +kernel
theorem dX7_hasOnTop_33 : decode cX7_hasOnTop 33 = .ok (.if_icmp .eq 7, 3) := by decide +kernel
theorem dX7_hasOnTop_36 : decode cX7_hasOnTop 36 = .ok (.iconst 1, 1) := by decide +kernel
theorem dX7_hasOnTop_37 : decode cX7_hasOnTop 37 = .ok (.goto 4, 3) := by decide +kernel
theorem dX7_hasOnTop_40 : decode cX7_hasOnTop 40 = .ok (.iconst 0, 1) := by decide +kernel
theorem dX7_hasOnTop_41 : decode cX7_hasOnTop 41 = .ok (.istore_n 2, 1) := by decide +kernel
theorem dX7_hasOnTop_42 : decode cX7_hasOnTop 42 = .ok (.iinc 3 1, 3) := by decide +kernel
theorem dX7_hasOnTop_45 : decode cX7_hasOnTop 45 = .ok (.goto (-41), 3) := by decide +kernel
theorem dX7_hasOnTop_48 : decode cX7_hasOnTop 48 = .ok (.iload_n 2, 1) := by decide +kernel
theorem dX7_hasOnTop_49 : decode cX7_hasOnTop 49 = .ok (.ireturn, 1) := by decide +kernel
def pX7_hasOnTop_b41 (K4 : Int32 → Int32 → Int32 → St → Option (Int32 × St)) (x1 : Int32) (x3 : Int32) (y0 : Int32) (v : St) : Option (Int32 × St) := K4 x1 y0 (x3 + 1) v
def pX7_hasOnTop_b36 (K4 : Int32 → Int32 → Int32 → St → Option (Int32 × St)) (x1 : Int32) (x3 : Int32) (v : St) : Option (Int32 × St) := pX7_hasOnTop_b41 K4 x1 x3 1 v
def pX7_hasOnTop_b40 (K4 : Int32 → Int32 → Int32 → St → Option (Int32 × St)) (x1 : Int32) (x3 : Int32) (v : St) : Option (Int32 × St) := pX7_hasOnTop_b41 K4 x1 x3 0 v
def pX7_hasOnTop_b4  (n : Nat) : Int32 → Int32 → Int32 → St → Option (Int32 × St) := Nat.rec (fun _ _ _ _ => none) (fun _ K4 x1 x2 x3 v => if 12 ≤ x3 then (if x2 = 0 ∨ x2 = 1 then some (x2, v) else none) else (if x2 = 0 then (if (x3 - x3 / 4 * 4) ≤ 1 then (pX7_hasOnTop_b40 K4 x1 x3 v) else (if ((12 * x1) + x3 < 0 ∨ 72 ≤ ((12 * x1) + x3).toNatClampNeg) then none else (if (v.1 0 ((12 * x1) + x3).toNatClampNeg) = ((-1)) then (pX7_hasOnTop_b40 K4 x1 x3 v) else (pX7_hasOnTop_b36 K4 x1 x3 v)))) else (pX7_hasOnTop_b36 K4 x1 x3 v))) n
def pX7_hasOnTop (a1 : Int32) (u : St) : Option (Int32 × St) := pX7_hasOnTop_b4 100 a1 0 0 u
set_option maxHeartbeats 4000000 in
set_option maxRecDepth 20000 in
theorem kX7_hasOnTop {l : Launch} {D : va_G} {Y : Nat → ClassId} {q : Nat → Nat} {a1 : Int32} {u u1 : St} {r : Int32} (hX : pX7_hasOnTop a1 u = some (r, u1)) : CMi l yX7_hasOnTop cX7_hasOnTop 4 (some .boolean) 0 0 D Y (wM Y q u) (wM Y q u1) [.ref (q 0), .int a1] r := by
  refine cm_ofi (by decide) (Nat.le_of_ble_eq_true rfl) rfl (fun p e s m args below meth c A F hr hlk => ?_)
  show GW p l e { frames := 0, cells := 0, slots := 0, locals := 0 } s m args below meth c D A 4 0 0 (MQ below (QI D (wM Y q u1) r A) args s 0 0 A) (wM Y q u) 0 [(0, .ref (q 0)), (1, .int a1)] []
  have b41 : ∀ (K4 : Int32 → Int32 → Int32 → St → Option (Int32 × St)) (hK4 : ∀ (x1 : Int32) (x2 : Int32) (x3 : Int32) (v : St), K4 x1 x2 x3 v = some (r, u1) → GW p l e { frames := 0, cells := 0, slots := 0, locals := 0 } s m args below meth c D A 4 0 0 (MQ below (QI D (wM Y q u1) r A) args s 0 0 A) (wM Y q v) 4 [(0, .ref (q 0)), (1, .int x1), (2, .int x2), (3, .int x3)] []) (x1 : Int32) (x3 : Int32) (y0 : Int32) (v : St), pX7_hasOnTop_b41 K4 x1 x3 y0 v = some (r, u1) → GW p l e { frames := 0, cells := 0, slots := 0, locals := 0 } s m args below meth c D A 4 0 0 (MQ below (QI D (wM Y q u1) r A) args s 0 0 A) (wM Y q v) 41 [(0, .ref (q 0)), (1, .int x1), (3, .int x3)] [.int y0] := by
    intro K4 hK4 x1 x3 y0 v hX
    have hX : (K4 x1 y0 (x3 + 1) v) = some (r, u1) := hX
    refine g_istore_n (lv' := [(2, .int y0), (0, .ref (q 0)), (1, .int x1), (3, .int x3)]) F dX7_hasOnTop_41 rfl (by decide) rfl ?_
    refine g_iinc (v := x3 + 1) (lv' := [(3, .int (x3 + 1)), (2, .int y0), (0, .ref (q 0)), (1, .int x1)]) F dX7_hasOnTop_42 3 rfl rfl (by decide) rfl ?_
    refine g_goto (tgt := 4) F dX7_hasOnTop_45 (by decide) ?_
    refine g_sub [2, 3, 1, 0] rfl ?_
    exact hK4 x1 y0 (x3 + 1) v hX
  have b36 : ∀ (K4 : Int32 → Int32 → Int32 → St → Option (Int32 × St)) (hK4 : ∀ (x1 : Int32) (x2 : Int32) (x3 : Int32) (v : St), K4 x1 x2 x3 v = some (r, u1) → GW p l e { frames := 0, cells := 0, slots := 0, locals := 0 } s m args below meth c D A 4 0 0 (MQ below (QI D (wM Y q u1) r A) args s 0 0 A) (wM Y q v) 4 [(0, .ref (q 0)), (1, .int x1), (2, .int x2), (3, .int x3)] []) (x1 : Int32) (x3 : Int32) (v : St), pX7_hasOnTop_b36 K4 x1 x3 v = some (r, u1) → GW p l e { frames := 0, cells := 0, slots := 0, locals := 0 } s m args below meth c D A 4 0 0 (MQ below (QI D (wM Y q u1) r A) args s 0 0 A) (wM Y q v) 36 [(0, .ref (q 0)), (1, .int x1), (3, .int x3)] [] := by
    intro K4 hK4 x1 x3 v hX
    have hX : (pX7_hasOnTop_b41 K4 x1 x3 1 v) = some (r, u1) := hX
    refine g_iconst (v := 1) F dX7_hasOnTop_36 (by decide) ?_
    refine g_goto (tgt := 41) F dX7_hasOnTop_37 (by decide) ?_
    exact b41 K4 hK4 x1 x3 1 v hX
  have b40 : ∀ (K4 : Int32 → Int32 → Int32 → St → Option (Int32 × St)) (hK4 : ∀ (x1 : Int32) (x2 : Int32) (x3 : Int32) (v : St), K4 x1 x2 x3 v = some (r, u1) → GW p l e { frames := 0, cells := 0, slots := 0, locals := 0 } s m args below meth c D A 4 0 0 (MQ below (QI D (wM Y q u1) r A) args s 0 0 A) (wM Y q v) 4 [(0, .ref (q 0)), (1, .int x1), (2, .int x2), (3, .int x3)] []) (x1 : Int32) (x3 : Int32) (v : St), pX7_hasOnTop_b40 K4 x1 x3 v = some (r, u1) → GW p l e { frames := 0, cells := 0, slots := 0, locals := 0 } s m args below meth c D A 4 0 0 (MQ below (QI D (wM Y q u1) r A) args s 0 0 A) (wM Y q v) 40 [(0, .ref (q 0)), (1, .int x1), (3, .int x3)] [] := by
    intro K4 hK4 x1 x3 v hX
    have hX : (pX7_hasOnTop_b41 K4 x1 x3 0 v) = some (r, u1) := hX
    refine g_iconst (v := 0) F dX7_hasOnTop_40 (by decide) ?_
    exact b41 K4 hK4 x1 x3 0 v hX
  have b4 : ∀  (n : Nat) (x1 : Int32) (x2 : Int32) (x3 : Int32) (v : St), pX7_hasOnTop_b4  n x1 x2 x3 v = some (r, u1) → GW p l e { frames := 0, cells := 0, slots := 0, locals := 0 } s m args below meth c D A 4 0 0 (MQ below (QI D (wM Y q u1) r A) args s 0 0 A) (wM Y q v) 4 [(0, .ref (q 0)), (1, .int x1), (2, .int x2), (3, .int x3)] [] := by
    intro  n
    induction n with
    | zero => intro x1 x2 x3 v hX; cases hX
    | succ n ih =>
      intro x1 x2 x3 v hX
      obtain ⟨K4, eK⟩ : ∃ K : Int32 → Int32 → Int32 → St → Option (Int32 × St), K = pX7_hasOnTop_b4  n := ⟨_, rfl⟩
      have hK4 : ∀ (x1 : Int32) (x2 : Int32) (x3 : Int32) (v : St), K4 x1 x2 x3 v = some (r, u1) → GW p l e { frames := 0, cells := 0, slots := 0, locals := 0 } s m args below meth c D A 4 0 0 (MQ below (QI D (wM Y q u1) r A) args s 0 0 A) (wM Y q v) 4 [(0, .ref (q 0)), (1, .int x1), (2, .int x2), (3, .int x3)] [] := by rw [eK]; exact ih
      have hX : (if 12 ≤ x3 then (if x2 = 0 ∨ x2 = 1 then some (x2, v) else none) else (if x2 = 0 then (if (x3 - x3 / 4 * 4) ≤ 1 then (pX7_hasOnTop_b40 K4 x1 x3 v) else (if ((12 * x1) + x3 < 0 ∨ 72 ≤ ((12 * x1) + x3).toNatClampNeg) then none else (if (v.1 0 ((12 * x1) + x3).toNatClampNeg) = ((-1)) then (pX7_hasOnTop_b40 K4 x1 x3 v) else (pX7_hasOnTop_b36 K4 x1 x3 v)))) else (pX7_hasOnTop_b36 K4 x1 x3 v))) = some (r, u1) := by rw [eK]; exact hX
      refine g_iload_n F dX7_hasOnTop_4 3 rfl rfl ?_
      refine g_bipush (v := 12) F dX7_hasOnTop_5 (by decide) ?_
      refine g_icmp_ge (tgt := 48) F dX7_hasOnTop_7 (by decide) (fun c1 => ?_) (fun c1 => ?_)
      · have hX := if_t hX c1
        refine g_iload_n F dX7_hasOnTop_48 2 rfl rfl ?_
        exact g_retCb (wf := wM Y q) F hr hlk dX7_hasOnTop_49 hX
      · have hX := if_f hX c1
        refine g_iload_n F dX7_hasOnTop_10 2 rfl rfl ?_
        refine g_if_ne (tgt := 36) F dX7_hasOnTop_11 (by decide) (fun c2 => ?_) (fun c2 => ?_)
        · have hX := if_f hX c2
          refine g_sub [0, 1, 3] rfl ?_
          exact b36 K4 hK4 x1 x3 v hX
        · have hX := if_t hX c2
          refine g_iload_n F dX7_hasOnTop_14 3 rfl rfl ?_
          refine g_iconst (v := 4) F dX7_hasOnTop_15 (by decide) ?_
          refine g_irem F dX7_hasOnTop_16 (by decide) ?_
          refine g_iconst (v := 1) F dX7_hasOnTop_17 (by decide) ?_
          refine g_icmp_le (tgt := 40) F dX7_hasOnTop_18 (by decide) (fun c3 => ?_) (fun c3 => ?_)
          · have hX := if_t hX c3
            refine g_sub [0, 1, 3] rfl ?_
            exact b40 K4 hK4 x1 x3 v hX
          · have hX := if_f hX c3
            refine g_aload_n F dX7_hasOnTop_21 0 rfl rfl ?_
            refine G_X7_7 F dX7_hasOnTop_22 ?_
            refine g_bipush (v := 12) F dX7_hasOnTop_25 (by decide) ?_
            refine g_iload_n F dX7_hasOnTop_27 1 rfl rfl ?_
            refine g_imul F dX7_hasOnTop_28 ?_
            refine g_iload_n F dX7_hasOnTop_29 3 rfl rfl ?_
            refine g_iadd F dX7_hasOnTop_30 ?_
            obtain ⟨hI4, hX⟩ := inb hX
            refine AL_0 F hI4 dX7_hasOnTop_31 ?_
            refine g_iconst (v := (-1)) F dX7_hasOnTop_32 (by decide) ?_
            refine g_icmp_eq (tgt := 40) F dX7_hasOnTop_33 (by decide) (fun c5 => ?_) (fun c5 => ?_)
            · have hX := if_t hX c5
              refine g_sub [0, 1, 3] rfl ?_
              exact b40 K4 hK4 x1 x3 v hX
            · have hX := if_f hX c5
              refine g_sub [0, 1, 3] rfl ?_
              exact b36 K4 hK4 x1 x3 v hX
  have hX : (pX7_hasOnTop_b4 100 a1 0 0 u) = some (r, u1) := hX
  refine g_iconst (v := 0) F dX7_hasOnTop_0 (by decide) ?_
  refine g_istore_n (lv' := [(2, .int 0), (0, .ref (q 0)), (1, .int a1)]) F dX7_hasOnTop_1 rfl (by decide) rfl ?_
  refine g_iconst (v := 0) F dX7_hasOnTop_2 (by decide) ?_
  refine g_istore_n (lv' := [(3, .int 0), (2, .int 0), (0, .ref (q 0)), (1, .int a1)]) F dX7_hasOnTop_3 rfl (by decide) rfl ?_
  refine g_sub [2, 3, 1, 0] rfl ?_
  exact b4 100 a1 0 0 u hX
theorem callX7_hasOnTop {p : Program} {l : Launch} {e : Env} {R : Room} {s : State} {m : MethodId} {args : Array Value} {below : List Frame} {meth : Method} {c : Code} {D : va_G} {Y : Nat → ClassId} {A : Nat → Prop} {cc : ByteArray} {nL : Nat} {own : String} {Q : State → Prop} {pc : Nat} {lv : List (Nat × Value)} {rest : List Value} {q : Nat → Nat} {a1 : Int32} {u u1 : St} {r : Int32} (F : Fx p s m args c D Y A cc nL own) (hX : pX7_hasOnTop a1 u = some (r, u1)) {index : Nat} (hml : Cond.methodLink own index yX7_hasOnTop ∈ TBL) (hR : 0 + 1 ≤ R.frames ∧ 8 + (4 + 11) + 0 ≤ R.locals) (hcat : (rest.map fun v => v.category).sum ≤ 8) (hd : decode cc pc = .ok (.invokevirtual index, 3)) (kk : GW p l e R s m args below meth c D A nL 0 0 Q (wM Y q u1) (pc + 3) lv (.int r :: rest)) : GW p l e R s m args below meth c D A nL 0 0 Q (wM Y q u) pc lv (.int a1 :: .ref (q 0) :: rest) := g_callVi (ws := wM Y q u) (n := 1) (q0 := 0) (As := [.int a1]) F [] [] (kX7_hasOnTop hX) (List.append_nil _).symm (List.append_nil _) (by unfold mOK; decide +kernel) rfl rfl cd_yX7_hasOnTop hml im_yX7_hasOnTop se_yX7_hasOnTop in_X7 rfl rfl hR ⟨Nat.zero_le _, Nat.zero_le _⟩ rfl hcat hd kk
theorem dX7_canOpen_0 : decode cX7_canOpen 0 = .ok (.aload_n 0, 1) := by decide +kernel
theorem dX7_canOpen_1 : decode cX7_canOpen 1 = .ok (.getfield 17, 3) := by decide +kernel
theorem dX7_canOpen_4 : decode cX7_canOpen 4 = .ok (.iload_n 1, 1) := by decide +kernel
theorem dX7_canOpen_5 : decode cX7_canOpen 5 = .ok (.baload, 1) := by decide +kernel
theorem dX7_canOpen_6 : decode cX7_canOpen 6 = .ok (.ifCond .ne 28, 3) := by decide +kernel
theorem dX7_canOpen_9 : decode cX7_canOpen 9 = .ok (.aload_n 0, 1) := by decide +kernel
theorem dX7_canOpen_10 : decode cX7_canOpen 10 = .ok (.iload_n 1, 1) := by decide +kernel
theorem dX7_canOpen_11 : decode cX7_canOpen 11 = .ok (.invokevirtual 120, 3) := by decide +kernel
theorem dX7_canOpen_14 : decode cX7_canOpen 14 = .ok (.ifCond .ne 20, 3) := by decide +kernel
theorem dX7_canOpen_17 : decode cX7_canOpen 17 = .ok (.aload_n 0, 1) := by decide +kernel
theorem dX7_canOpen_18 : decode cX7_canOpen 18 = .ok (.getfield 114, 3) := by decide +kernel
theorem dX7_canOpen_21 : decode cX7_canOpen 21 = .ok (.aload_n 0, 1) := by decide +kernel
theorem dX7_canOpen_22 : decode cX7_canOpen 22 = .ok (.getfield 20, 3) := by decide +kernel
theorem dX7_canOpen_25 : decode cX7_canOpen 25 = .ok (.iload_n 1, 1) := by decide +kernel
theorem dX7_canOpen_26 : decode cX7_canOpen 26 = .ok (.iaload, 1) := by decide +kernel
theorem dX7_canOpen_27 : decode cX7_canOpen 27 = .ok (.if_icmp .lt 7, 3) := by decide +kernel
theorem dX7_canOpen_30 : decode cX7_canOpen 30 = .ok (.iconst 1, 1) := by decide +kernel
theorem dX7_canOpen_31 : decode cX7_canOpen 31 = .ok (.goto 4, 3) := by decide +kernel
theorem dX7_canOpen_34 : decode cX7_canOpen 34 = .ok (.iconst 0, 1) := by decide +kernel
theorem dX7_canOpen_35 : decode cX7_canOpen 35 = .ok (.ireturn, 1) := by decide +kernel
def pX7_canOpen_b34   (v : St) : Option (Int32 × St) := some (0, v)
def pX7_canOpen (a1 : Int32) (u : St) : Option (Int32 × St) := if (a1 < 0 ∨ 6 ≤ a1.toNatClampNeg) then none else (if (u.1 2 a1.toNatClampNeg) = 0 then (bnd (pX7_hasOnTop a1 u) (fun r3 w4 => if r3 = 0 then (if (a1 < 0 ∨ 6 ≤ a1.toNatClampNeg) then none else (if (w4.2 7) < (w4.1 3 a1.toNatClampNeg) then (pX7_canOpen_b34 w4) else (some (1, w4)))) else (pX7_canOpen_b34 w4))) else (pX7_canOpen_b34 u))
set_option maxHeartbeats 4000000 in
set_option maxRecDepth 20000 in
theorem kX7_canOpen {l : Launch} {D : va_G} {Y : Nat → ClassId} {q : Nat → Nat} {a1 : Int32} {u u1 : St} {r : Int32} (hX : pX7_canOpen a1 u = some (r, u1)) : CMi l yX7_canOpen cX7_canOpen 2 (some .boolean) 1 23 D Y (wM Y q u) (wM Y q u1) [.ref (q 0), .int a1] r := by
  refine cm_ofi (by decide) (Nat.le_of_ble_eq_true rfl) rfl (fun p e s m args below meth c A F hr hlk => ?_)
  show GW p l e { frames := 1, cells := 0, slots := 0, locals := 23 } s m args below meth c D A 2 0 0 (MQ below (QI D (wM Y q u1) r A) args s 0 0 A) (wM Y q u) 0 [(0, .ref (q 0)), (1, .int a1)] []
  have b34 : ∀   (v : St), pX7_canOpen_b34  v = some (r, u1) → GW p l e { frames := 1, cells := 0, slots := 0, locals := 23 } s m args below meth c D A 2 0 0 (MQ below (QI D (wM Y q u1) r A) args s 0 0 A) (wM Y q v) 34 [] [] := by
    intro  v hX
    have hX : (some (0, v)) = some (r, u1) := hX
    refine g_iconst (v := 0) F dX7_canOpen_34 (by decide) ?_
    exact g_retC (wf := wM Y q) F hr rfl hlk dX7_canOpen_35 hX
  have hX : (if (a1 < 0 ∨ 6 ≤ a1.toNatClampNeg) then none else (if (u.1 2 a1.toNatClampNeg) = 0 then (bnd (pX7_hasOnTop a1 u) (fun r3 w4 => if r3 = 0 then (if (a1 < 0 ∨ 6 ≤ a1.toNatClampNeg) then none else (if (w4.2 7) < (w4.1 3 a1.toNatClampNeg) then (pX7_canOpen_b34 w4) else (some (1, w4)))) else (pX7_canOpen_b34 w4))) else (pX7_canOpen_b34 u))) = some (r, u1) := hX
  refine g_aload_n F dX7_canOpen_0 0 rfl rfl ?_
  refine G_X7_17 F dX7_canOpen_1 ?_
  refine g_iload_n F dX7_canOpen_4 1 rfl rfl ?_
  obtain ⟨hI1, hX⟩ := inb hX
  refine AL_2 F hI1 dX7_canOpen_5 ?_
  refine g_if_ne (tgt := 34) F dX7_canOpen_6 (by decide) (fun c2 => ?_) (fun c2 => ?_)
  · have hX := if_f hX c2
    refine g_sub [] rfl ?_
    exact b34 u hX
  · have hX := if_t hX c2
    refine g_aload_n F dX7_canOpen_9 0 rfl rfl ?_
    refine g_iload_n F dX7_canOpen_10 1 rfl rfl ?_
    obtain ⟨r3, w4, hc5, hX⟩ := bnd_s hX
    refine callX7_hasOnTop F hc5 ml_X7_120 ⟨Nat.le_of_ble_eq_true rfl, Nat.le_of_ble_eq_true rfl⟩ (Nat.le_of_ble_eq_true rfl) dX7_canOpen_11 ?_
    refine g_if_ne (tgt := 34) F dX7_canOpen_14 (by decide) (fun c6 => ?_) (fun c6 => ?_)
    · have hX := if_f hX c6
      refine g_sub [] rfl ?_
      exact b34 w4 hX
    · have hX := if_t hX c6
      refine g_aload_n F dX7_canOpen_17 0 rfl rfl ?_
      refine G_X7_114 F dX7_canOpen_18 ?_
      refine g_aload_n F dX7_canOpen_21 0 rfl rfl ?_
      refine G_X7_20 F dX7_canOpen_22 ?_
      refine g_iload_n F dX7_canOpen_25 1 rfl rfl ?_
      obtain ⟨hI7, hX⟩ := inb hX
      refine AL_3 F hI7 dX7_canOpen_26 ?_
      refine g_icmp_lt (tgt := 34) F dX7_canOpen_27 (by decide) (fun c8 => ?_) (fun c8 => ?_)
      · have hX := if_t hX c8
        refine g_sub [] rfl ?_
        exact b34 w4 hX
      · have hX := if_f hX c8
        refine g_iconst (v := 1) F dX7_canOpen_30 (by decide) ?_
        refine g_goto (tgt := 35) F dX7_canOpen_31 (by decide) ?_
        exact g_retC (wf := wM Y q) F hr rfl hlk dX7_canOpen_35 hX
theorem callX7_canOpen {p : Program} {l : Launch} {e : Env} {R : Room} {s : State} {m : MethodId} {args : Array Value} {below : List Frame} {meth : Method} {c : Code} {D : va_G} {Y : Nat → ClassId} {A : Nat → Prop} {cc : ByteArray} {nL : Nat} {own : String} {Q : State → Prop} {pc : Nat} {lv : List (Nat × Value)} {rest : List Value} {q : Nat → Nat} {a1 : Int32} {u u1 : St} {r : Int32} (F : Fx p s m args c D Y A cc nL own) (hX : pX7_canOpen a1 u = some (r, u1)) {index : Nat} (hml : Cond.methodLink own index yX7_canOpen ∈ TBL) (hR : 1 + 1 ≤ R.frames ∧ 8 + (2 + 11) + 23 ≤ R.locals) (hcat : (rest.map fun v => v.category).sum ≤ 8) (hd : decode cc pc = .ok (.invokevirtual index, 3)) (kk : GW p l e R s m args below meth c D A nL 0 0 Q (wM Y q u1) (pc + 3) lv (.int r :: rest)) : GW p l e R s m args below meth c D A nL 0 0 Q (wM Y q u) pc lv (.int a1 :: .ref (q 0) :: rest) := g_callVi (ws := wM Y q u) (n := 1) (q0 := 0) (As := [.int a1]) F [] [] (kX7_canOpen hX) (List.append_nil _).symm (List.append_nil _) (by unfold mOK; decide +kernel) rfl rfl cd_yX7_canOpen hml im_yX7_canOpen se_yX7_canOpen in_X7 rfl rfl hR ⟨Nat.zero_le _, Nat.zero_le _⟩ rfl hcat hd kk
theorem dX7_fits_0 : decode cX7_fits 0 = .ok (.aload_n 0, 1) := by decide +kernel
theorem dX7_fits_1 : decode cX7_fits 1 = .ok (.getfield 36, 3) := by decide +kernel
theorem dX7_fits_4 : decode cX7_fits 4 = .ok (.iload_n 1, 1) := by decide +kernel
theorem dX7_fits_5 : decode cX7_fits 5 = .ok (.iaload, 1) := by decide +kernel
theorem dX7_fits_6 : decode cX7_fits 6 = .ok (.aload_n 0, 1) := by decide +kernel
theorem dX7_fits_7 : decode cX7_fits 7 = .ok (.getfield 36, 3) := by decide +kernel
theorem dX7_fits_10 : decode cX7_fits 10 = .ok (.iload_n 2, 1) := by decide +kernel
theorem dX7_fits_11 : decode cX7_fits 11 = .ok (.iaload, 1) := by decide +kernel
theorem dX7_fits_12 : decode cX7_fits 12 = .ok (.iconst 5, 1) := by decide +kernel
theorem dX7_fits_13 : decode cX7_fits 13 = .ok (.iadd, 1) := by decide +kernel
theorem dX7_fits_14 : decode cX7_fits 14 = .ok (.if_icmp .gt 7, 3) := by decide +kernel
theorem dX7_fits_17 : decode cX7_fits 17 = .ok (.iconst 1, 1) := by decide +kernel
theorem dX7_fits_18 : decode cX7_fits 18 = .ok (.goto 4, 3) := by decide +kernel
theorem dX7_fits_21 : decode cX7_fits 21 = .ok (.iconst 0, 1) := by decide +kernel
theorem dX7_fits_22 : decode cX7_fits 22 = .ok (.ireturn, 1) := by decide +kernel
def pX7_fits (a1 : Int32) (a2 : Int32) (u : St) : Option (Int32 × St) := if (a1 < 0 ∨ 60 ≤ a1.toNatClampNeg) then none else (if (a2 < 0 ∨ 60 ≤ a2.toNatClampNeg) then none else (if ((u.1 5 a2.toNatClampNeg) + 5) < (u.1 5 a1.toNatClampNeg) then (some (0, u)) else (some (1, u))))
set_option maxHeartbeats 4000000 in
set_option maxRecDepth 20000 in
theorem kX7_fits {l : Launch} {D : va_G} {Y : Nat → ClassId} {q : Nat → Nat} {a1 a2 : Int32} {u u1 : St} {r : Int32} (hX : pX7_fits a1 a2 u = some (r, u1)) : CMi l yX7_fits cX7_fits 3 (some .boolean) 0 0 D Y (wM Y q u) (wM Y q u1) [.ref (q 0), .int a1, .int a2] r := by
  refine cm_ofi (by decide) (Nat.le_of_ble_eq_true rfl) rfl (fun p e s m args below meth c A F hr hlk => ?_)
  show GW p l e { frames := 0, cells := 0, slots := 0, locals := 0 } s m args below meth c D A 3 0 0 (MQ below (QI D (wM Y q u1) r A) args s 0 0 A) (wM Y q u) 0 [(0, .ref (q 0)), (1, .int a1), (2, .int a2)] []
  have hX : (if (a1 < 0 ∨ 60 ≤ a1.toNatClampNeg) then none else (if (a2 < 0 ∨ 60 ≤ a2.toNatClampNeg) then none else (if ((u.1 5 a2.toNatClampNeg) + 5) < (u.1 5 a1.toNatClampNeg) then (some (0, u)) else (some (1, u))))) = some (r, u1) := hX
  refine g_aload_n F dX7_fits_0 0 rfl rfl ?_
  refine G_X7_36 F dX7_fits_1 ?_
  refine g_iload_n F dX7_fits_4 1 rfl rfl ?_
  obtain ⟨hI1, hX⟩ := inb hX
  refine AL_5 F hI1 dX7_fits_5 ?_
  refine g_aload_n F dX7_fits_6 0 rfl rfl ?_
  refine G_X7_36 F dX7_fits_7 ?_
  refine g_iload_n F dX7_fits_10 2 rfl rfl ?_
  obtain ⟨hI2, hX⟩ := inb hX
  refine AL_5 F hI2 dX7_fits_11 ?_
  refine g_iconst (v := 5) F dX7_fits_12 (by decide) ?_
  refine g_iadd F dX7_fits_13 ?_
  refine g_icmp_gt (tgt := 21) F dX7_fits_14 (by decide) (fun c3 => ?_) (fun c3 => ?_)
  · have hX := if_t hX c3
    refine g_iconst (v := 0) F dX7_fits_21 (by decide) ?_
    exact g_retC (wf := wM Y q) F hr rfl hlk dX7_fits_22 hX
  · have hX := if_f hX c3
    refine g_iconst (v := 1) F dX7_fits_17 (by decide) ?_
    refine g_goto (tgt := 22) F dX7_fits_18 (by decide) ?_
    exact g_retC (wf := wM Y q) F hr rfl hlk dX7_fits_22 hX
theorem callX7_fits {p : Program} {l : Launch} {e : Env} {R : Room} {s : State} {m : MethodId} {args : Array Value} {below : List Frame} {meth : Method} {c : Code} {D : va_G} {Y : Nat → ClassId} {A : Nat → Prop} {cc : ByteArray} {nL : Nat} {own : String} {Q : State → Prop} {pc : Nat} {lv : List (Nat × Value)} {rest : List Value} {q : Nat → Nat} {a1 a2 : Int32} {u u1 : St} {r : Int32} (F : Fx p s m args c D Y A cc nL own) (hX : pX7_fits a1 a2 u = some (r, u1)) {index : Nat} (hml : Cond.methodLink own index yX7_fits ∈ TBL) (hR : 0 + 1 ≤ R.frames ∧ 8 + (3 + 11) + 0 ≤ R.locals) (hcat : (rest.map fun v => v.category).sum ≤ 8) (hd : decode cc pc = .ok (.invokevirtual index, 3)) (kk : GW p l e R s m args below meth c D A nL 0 0 Q (wM Y q u1) (pc + 3) lv (.int r :: rest)) : GW p l e R s m args below meth c D A nL 0 0 Q (wM Y q u) pc lv (.int a2 :: .int a1 :: .ref (q 0) :: rest) := g_callVi (ws := wM Y q u) (n := 2) (q0 := 0) (As := [.int a1, .int a2]) F [] [] (kX7_fits hX) (List.append_nil _).symm (List.append_nil _) (by unfold mOK; decide +kernel) rfl rfl cd_yX7_fits hml im_yX7_fits se_yX7_fits in_X7 rfl rfl hR ⟨Nat.zero_le _, Nat.zero_le _⟩ rfl hcat hd kk
theorem dX7_stackMay_0 : decode cX7_stackMay 0 = .ok (.aload_n 0, 1) := by decide +kernel
theorem dX7_stackMay_1 : decode cX7_stackMay 1 = .ok (.getfield 57, 3) := by decide +kernel
theorem dX7_stackMay_4 : decode cX7_stackMay 4 = .ok (.iload_n 2, 1) := by decide +kernel
theorem dX7_stackMay_5 : decode cX7_stackMay 5 = .ok (.iaload, 1) := by decide +kernel
theorem dX7_stackMay_6 : decode cX7_stackMay 6 = .ok (.iconst 4, 1) := by decide +kernel
theorem dX7_stackMay_7 : decode cX7_stackMay 7 = .ok (.if_icmp .ge 41, 3) := by decide +kernel
theorem dX7_stackMay_10 : decode cX7_stackMay 10 = .ok (.aload_n 0, 1) := by decide +kernel
theorem dX7_stackMay_11 : decode cX7_stackMay 11 = .ok (.getfield 57, 3) := by decide +kernel
theorem dX7_stackMay_14 : decode cX7_stackMay 14 = .ok (.iload_n 2, 1) := by decide +kernel
theorem dX7_stackMay_15 : decode cX7_stackMay 15 = .ok (.iaload, 1) := by decide +kernel
theorem dX7_stackMay_16 : decode cX7_stackMay 16 = .ok (.ifCond .eq 28, 3) := by decide +kernel
theorem dX7_stackMay_19 : decode cX7_stackMay 19 = .ok (.aload_n 0, 1) := by decide +kernel
theorem dX7_stackMay_20 : decode cX7_stackMay 20 = .ok (.iload_n 1, 1) := by decide +kernel
theorem dX7_stackMay_21 : decode cX7_stackMay 21 = .ok (.aload_n 0, 1) := by decide +kernel
theorem dX7_stackMay_22 : decode cX7_stackMay 22 = .ok (.getfield 60, 3) := by decide +kernel
theorem dX7_stackMay_25 : decode cX7_stackMay 25 = .ok (.iconst 4, 1) := by decide +kernel
theorem dX7_stackMay_26 : decode cX7_stackMay 26 = .ok (.iload_n 2, 1) := by decide +kernel
theorem dX7_stackMay_27 : decode cX7_stackMay 27 = .ok (.imul, 1) := by decide +kernel
theorem dX7_stackMay_28 : decode cX7_stackMay 28 = .ok (.aload_n 0, 1) := by decide +kernel
theorem dX7_stackMay_29 : decode cX7_stackMay 29 = .ok (.getfield 57, 3) := by decide +kernel
theorem dX7_stackMay_32 : decode cX7_stackMay 32 = .ok (.iload_n 2, 1) := by decide +kernel
theorem dX7_stackMay_33 : decode cX7_stackMay 33 = .ok (.iaload, 1) := by decide +kernel
theorem dX7_stackMay_34 : decode cX7_stackMay 34 = .ok (.iadd, 1) := by decide +kernel
theorem dX7_stackMay_35 : decode cX7_stackMay 35 = .ok (.iconst 1, 1) := by decide +kernel
theorem dX7_stackMay_36 : decode cX7_stackMay 36 = .ok (.isub, 1) := by decide +kernel
theorem dX7_stackMay_37 : decode cX7_stackMay 37 = .ok (.iaload, 1) := by decide +kernel
theorem dX7_stackMay_38 : decode cX7_stackMay 38 = .ok (.invokevirtual 123, 3) := by decide +kernel
theorem dX7_stackMay_41 : decode cX7_stackMay 41 = .ok (.ifCond .eq 7, 3) := by decide +kernel
theorem dX7_stackMay_44 : decode cX7_stackMay 44 = .ok (.iconst 1, 1) := by decide +kernel
theorem dX7_stackMay_45 : decode cX7_stackMay 45 = .ok (.goto 4, 3) := by decide +kernel
theorem dX7_stackMay_48 : decode cX7_stackMay 48 = .ok (.iconst 0, 1) := by decide +kernel
theorem dX7_stackMay_49 : decode cX7_stackMay 49 = .ok (.ireturn, 1) := by decide +kernel
def pX7_stackMay_b48   (v : St) : Option (Int32 × St) := some (0, v)
def pX7_stackMay_b44   (v : St) : Option (Int32 × St) := some (1, v)
def pX7_stackMay (a1 : Int32) (a2 : Int32) (u : St) : Option (Int32 × St) := if (a2 < 0 ∨ 10 ≤ a2.toNatClampNeg) then none else (if 4 ≤ (u.1 12 a2.toNatClampNeg) then (pX7_stackMay_b48 u) else (if (a2 < 0 ∨ 10 ≤ a2.toNatClampNeg) then none else (if (u.1 12 a2.toNatClampNeg) = 0 then (pX7_stackMay_b44 u) else (if (a2 < 0 ∨ 10 ≤ a2.toNatClampNeg) then none else (if (((4 * a2) + (u.1 12 a2.toNatClampNeg)) - 1 < 0 ∨ 40 ≤ (((4 * a2) + (u.1 12 a2.toNatClampNeg)) - 1).toNatClampNeg) then none else (bnd (pX7_fits a1 (u.1 13 (((4 * a2) + (u.1 12 a2.toNatClampNeg)) - 1).toNatClampNeg) u) (fun r7 w8 => if r7 = 0 then (pX7_stackMay_b48 w8) else (pX7_stackMay_b44 w8))))))))
set_option maxHeartbeats 4000000 in
set_option maxRecDepth 20000 in
theorem kX7_stackMay {l : Launch} {D : va_G} {Y : Nat → ClassId} {q : Nat → Nat} {a1 a2 : Int32} {u u1 : St} {r : Int32} (hX : pX7_stackMay a1 a2 u = some (r, u1)) : CMi l yX7_stackMay cX7_stackMay 3 (some .boolean) 1 22 D Y (wM Y q u) (wM Y q u1) [.ref (q 0), .int a1, .int a2] r := by
  refine cm_ofi (by decide) (Nat.le_of_ble_eq_true rfl) rfl (fun p e s m args below meth c A F hr hlk => ?_)
  show GW p l e { frames := 1, cells := 0, slots := 0, locals := 22 } s m args below meth c D A 3 0 0 (MQ below (QI D (wM Y q u1) r A) args s 0 0 A) (wM Y q u) 0 [(0, .ref (q 0)), (1, .int a1), (2, .int a2)] []
  have b48 : ∀   (v : St), pX7_stackMay_b48  v = some (r, u1) → GW p l e { frames := 1, cells := 0, slots := 0, locals := 22 } s m args below meth c D A 3 0 0 (MQ below (QI D (wM Y q u1) r A) args s 0 0 A) (wM Y q v) 48 [] [] := by
    intro  v hX
    have hX : (some (0, v)) = some (r, u1) := hX
    refine g_iconst (v := 0) F dX7_stackMay_48 (by decide) ?_
    exact g_retC (wf := wM Y q) F hr rfl hlk dX7_stackMay_49 hX
  have b44 : ∀   (v : St), pX7_stackMay_b44  v = some (r, u1) → GW p l e { frames := 1, cells := 0, slots := 0, locals := 22 } s m args below meth c D A 3 0 0 (MQ below (QI D (wM Y q u1) r A) args s 0 0 A) (wM Y q v) 44 [] [] := by
    intro  v hX
    have hX : (some (1, v)) = some (r, u1) := hX
    refine g_iconst (v := 1) F dX7_stackMay_44 (by decide) ?_
    refine g_goto (tgt := 49) F dX7_stackMay_45 (by decide) ?_
    exact g_retC (wf := wM Y q) F hr rfl hlk dX7_stackMay_49 hX
  have hX : (if (a2 < 0 ∨ 10 ≤ a2.toNatClampNeg) then none else (if 4 ≤ (u.1 12 a2.toNatClampNeg) then (pX7_stackMay_b48 u) else (if (a2 < 0 ∨ 10 ≤ a2.toNatClampNeg) then none else (if (u.1 12 a2.toNatClampNeg) = 0 then (pX7_stackMay_b44 u) else (if (a2 < 0 ∨ 10 ≤ a2.toNatClampNeg) then none else (if (((4 * a2) + (u.1 12 a2.toNatClampNeg)) - 1 < 0 ∨ 40 ≤ (((4 * a2) + (u.1 12 a2.toNatClampNeg)) - 1).toNatClampNeg) then none else (bnd (pX7_fits a1 (u.1 13 (((4 * a2) + (u.1 12 a2.toNatClampNeg)) - 1).toNatClampNeg) u) (fun r7 w8 => if r7 = 0 then (pX7_stackMay_b48 w8) else (pX7_stackMay_b44 w8))))))))) = some (r, u1) := hX
  refine g_aload_n F dX7_stackMay_0 0 rfl rfl ?_
  refine G_X7_57 F dX7_stackMay_1 ?_
  refine g_iload_n F dX7_stackMay_4 2 rfl rfl ?_
  obtain ⟨hI1, hX⟩ := inb hX
  refine AL_12 F hI1 dX7_stackMay_5 ?_
  refine g_iconst (v := 4) F dX7_stackMay_6 (by decide) ?_
  refine g_icmp_ge (tgt := 48) F dX7_stackMay_7 (by decide) (fun c2 => ?_) (fun c2 => ?_)
  · have hX := if_t hX c2
    refine g_sub [] rfl ?_
    exact b48 u hX
  · have hX := if_f hX c2
    refine g_aload_n F dX7_stackMay_10 0 rfl rfl ?_
    refine G_X7_57 F dX7_stackMay_11 ?_
    refine g_iload_n F dX7_stackMay_14 2 rfl rfl ?_
    obtain ⟨hI3, hX⟩ := inb hX
    refine AL_12 F hI3 dX7_stackMay_15 ?_
    refine g_if_eq (tgt := 44) F dX7_stackMay_16 (by decide) (fun c4 => ?_) (fun c4 => ?_)
    · have hX := if_t hX c4
      refine g_sub [] rfl ?_
      exact b44 u hX
    · have hX := if_f hX c4
      refine g_aload_n F dX7_stackMay_19 0 rfl rfl ?_
      refine g_iload_n F dX7_stackMay_20 1 rfl rfl ?_
      refine g_aload_n F dX7_stackMay_21 0 rfl rfl ?_
      refine G_X7_60 F dX7_stackMay_22 ?_
      refine g_iconst (v := 4) F dX7_stackMay_25 (by decide) ?_
      refine g_iload_n F dX7_stackMay_26 2 rfl rfl ?_
      refine g_imul F dX7_stackMay_27 ?_
      refine g_aload_n F dX7_stackMay_28 0 rfl rfl ?_
      refine G_X7_57 F dX7_stackMay_29 ?_
      refine g_iload_n F dX7_stackMay_32 2 rfl rfl ?_
      obtain ⟨hI5, hX⟩ := inb hX
      refine AL_12 F hI5 dX7_stackMay_33 ?_
      refine g_iadd F dX7_stackMay_34 ?_
      refine g_iconst (v := 1) F dX7_stackMay_35 (by decide) ?_
      refine g_isub F dX7_stackMay_36 ?_
      obtain ⟨hI6, hX⟩ := inb hX
      refine AL_13 F hI6 dX7_stackMay_37 ?_
      obtain ⟨r7, w8, hc9, hX⟩ := bnd_s hX
      refine callX7_fits F hc9 ml_X7_123 ⟨Nat.le_of_ble_eq_true rfl, Nat.le_of_ble_eq_true rfl⟩ (Nat.le_of_ble_eq_true rfl) dX7_stackMay_38 ?_
      refine g_if_eq (tgt := 48) F dX7_stackMay_41 (by decide) (fun c10 => ?_) (fun c10 => ?_)
      · have hX := if_t hX c10
        refine g_sub [] rfl ?_
        exact b48 w8 hX
      · have hX := if_f hX c10
        refine g_sub [] rfl ?_
        exact b44 w8 hX
theorem callX7_stackMay {p : Program} {l : Launch} {e : Env} {R : Room} {s : State} {m : MethodId} {args : Array Value} {below : List Frame} {meth : Method} {c : Code} {D : va_G} {Y : Nat → ClassId} {A : Nat → Prop} {cc : ByteArray} {nL : Nat} {own : String} {Q : State → Prop} {pc : Nat} {lv : List (Nat × Value)} {rest : List Value} {q : Nat → Nat} {a1 a2 : Int32} {u u1 : St} {r : Int32} (F : Fx p s m args c D Y A cc nL own) (hX : pX7_stackMay a1 a2 u = some (r, u1)) {index : Nat} (hml : Cond.methodLink own index yX7_stackMay ∈ TBL) (hR : 1 + 1 ≤ R.frames ∧ 8 + (3 + 11) + 22 ≤ R.locals) (hcat : (rest.map fun v => v.category).sum ≤ 8) (hd : decode cc pc = .ok (.invokevirtual index, 3)) (kk : GW p l e R s m args below meth c D A nL 0 0 Q (wM Y q u1) (pc + 3) lv (.int r :: rest)) : GW p l e R s m args below meth c D A nL 0 0 Q (wM Y q u) pc lv (.int a2 :: .int a1 :: .ref (q 0) :: rest) := g_callVi (ws := wM Y q u) (n := 2) (q0 := 0) (As := [.int a1, .int a2]) F [] [] (kX7_stackMay hX) (List.append_nil _).symm (List.append_nil _) (by unfold mOK; decide +kernel) rfl rfl cd_yX7_stackMay hml im_yX7_stackMay se_yX7_stackMay in_X7 rfl rfl hR ⟨Nat.zero_le _, Nat.zero_le _⟩ rfl hcat hd kk
theorem dX7_isDangerous_0 : decode cX7_isDangerous 0 = .ok (.aload_n 0, 1) := by decide +kernel
theorem dX7_isDangerous_1 : decode cX7_isDangerous 1 = .ok (.getfield 45, 3) := by decide +kernel
theorem dX7_isDangerous_4 : decode cX7_isDangerous 4 = .ok (.iload_n 1, 1) := by decide +kernel
theorem dX7_isDangerous_5 : decode cX7_isDangerous 5 = .ok (.iaload, 1) := by decide +kernel
theorem dX7_isDangerous_6 : decode cX7_isDangerous 6 = .ok (.iconst 2, 1) := by decide +kernel
theorem dX7_isDangerous_7 : decode cX7_isDangerous 7 = .ok (.if_icmp .lt 7, 3) := by decide +kernel
theorem dX7_isDangerous_10 : decode cX7_isDangerous 10 = .ok (.iconst 1, 1) := by decide +kernel
theorem dX7_isDangerous_11 : decode cX7_isDangerous 11 = .ok (.goto 4, 3) := by decide +kernel
theorem dX7_isDangerous_14 : decode cX7_isDangerous 14 = .ok (.iconst 0, 1) := by decide +kernel
theorem dX7_isDangerous_15 : decode cX7_isDangerous 15 = .ok (.ireturn, 1) := by decide +kernel
def pX7_isDangerous (a1 : Int32) (u : St) : Option (Int32 × St) := if (a1 < 0 ∨ 60 ≤ a1.toNatClampNeg) then none else (if (u.1 8 a1.toNatClampNeg) < 2 then (some (0, u)) else (some (1, u)))
set_option maxHeartbeats 4000000 in
set_option maxRecDepth 20000 in
theorem kX7_isDangerous {l : Launch} {D : va_G} {Y : Nat → ClassId} {q : Nat → Nat} {a1 : Int32} {u u1 : St} {r : Int32} (hX : pX7_isDangerous a1 u = some (r, u1)) : CMi l yX7_isDangerous cX7_isDangerous 2 (some .boolean) 0 0 D Y (wM Y q u) (wM Y q u1) [.ref (q 0), .int a1] r := by
  refine cm_ofi (by decide) (Nat.le_of_ble_eq_true rfl) rfl (fun p e s m args below meth c A F hr hlk => ?_)
  show GW p l e { frames := 0, cells := 0, slots := 0, locals := 0 } s m args below meth c D A 2 0 0 (MQ below (QI D (wM Y q u1) r A) args s 0 0 A) (wM Y q u) 0 [(0, .ref (q 0)), (1, .int a1)] []
  have hX : (if (a1 < 0 ∨ 60 ≤ a1.toNatClampNeg) then none else (if (u.1 8 a1.toNatClampNeg) < 2 then (some (0, u)) else (some (1, u)))) = some (r, u1) := hX
  refine g_aload_n F dX7_isDangerous_0 0 rfl rfl ?_
  refine G_X7_45 F dX7_isDangerous_1 ?_
  refine g_iload_n F dX7_isDangerous_4 1 rfl rfl ?_
  obtain ⟨hI1, hX⟩ := inb hX
  refine AL_8 F hI1 dX7_isDangerous_5 ?_
  refine g_iconst (v := 2) F dX7_isDangerous_6 (by decide) ?_
  refine g_icmp_lt (tgt := 14) F dX7_isDangerous_7 (by decide) (fun c2 => ?_) (fun c2 => ?_)
  · have hX := if_t hX c2
    refine g_iconst (v := 0) F dX7_isDangerous_14 (by decide) ?_
    exact g_retC (wf := wM Y q) F hr rfl hlk dX7_isDangerous_15 hX
  · have hX := if_f hX c2
    refine g_iconst (v := 1) F dX7_isDangerous_10 (by decide) ?_
    refine g_goto (tgt := 15) F dX7_isDangerous_11 (by decide) ?_
    exact g_retC (wf := wM Y q) F hr rfl hlk dX7_isDangerous_15 hX
theorem callX7_isDangerous {p : Program} {l : Launch} {e : Env} {R : Room} {s : State} {m : MethodId} {args : Array Value} {below : List Frame} {meth : Method} {c : Code} {D : va_G} {Y : Nat → ClassId} {A : Nat → Prop} {cc : ByteArray} {nL : Nat} {own : String} {Q : State → Prop} {pc : Nat} {lv : List (Nat × Value)} {rest : List Value} {q : Nat → Nat} {a1 : Int32} {u u1 : St} {r : Int32} (F : Fx p s m args c D Y A cc nL own) (hX : pX7_isDangerous a1 u = some (r, u1)) {index : Nat} (hml : Cond.methodLink own index yX7_isDangerous ∈ TBL) (hR : 0 + 1 ≤ R.frames ∧ 8 + (2 + 11) + 0 ≤ R.locals) (hcat : (rest.map fun v => v.category).sum ≤ 8) (hd : decode cc pc = .ok (.invokevirtual index, 3)) (kk : GW p l e R s m args below meth c D A nL 0 0 Q (wM Y q u1) (pc + 3) lv (.int r :: rest)) : GW p l e R s m args below meth c D A nL 0 0 Q (wM Y q u) pc lv (.int a1 :: .ref (q 0) :: rest) := g_callVi (ws := wM Y q u) (n := 1) (q0 := 0) (As := [.int a1]) F [] [] (kX7_isDangerous hX) (List.append_nil _).symm (List.append_nil _) (by unfold mOK; decide +kernel) rfl rfl cd_yX7_isDangerous hml im_yX7_isDangerous se_yX7_isDangerous in_X7 rfl rfl hR ⟨Nat.zero_le _, Nat.zero_le _⟩ rfl hcat hd kk
theorem dX7_isApart_0 : decode cX7_isApart 0 = .ok (.iconst 1, 1) := by decide +kernel
theorem dX7_isApart_1 : decode cX7_isApart 1 = .ok (.istore_n 3, 1) := by decide +kernel
theorem dX7_isApart_2 : decode cX7_isApart 2 = .ok (.iconst 0, 1) := by decide +kernel
theorem dX7_isApart_3 : decode cX7_isApart 3 = .ok (.istore 4, 2) := by decide +kernel
theorem dX7_isApart_5 : decode cX7_isApart 5 = .ok (.iload 4, 2) := by decide +kernel
theorem dX7_isApart_7 : decode cX7_isApart 7 = .ok (.aload_n 0, 1) := by decide +kernel
theorem dX7_isApart_8 : decode cX7_isApart 8 = .ok (.getfield 94, 3) := by decide +kernel
theorem dX7_isApart_11 : decode cX7_isApart 11 = .ok (.if_icmp .ge 110, 3) := by decide +kernel
theorem dX7_isApart_14 : decode cX7_isApart 14 = .ok (.iload 4, 2) := by decide +kernel
theorem dX7_isApart_16 : decode cX7_isApart 16 = .ok (.iload_n 1, 1) := by decide +kernel
theorem dX7_isApart_17 : decode cX7_isApart 17 = .ok (.if_icmp .eq 98, 3) := by decide +kernel
theorem dX7_isApart_20 : decode cX7_isApart 20 = .ok (.aload_n 0, 1) := by decide +kernel
theorem dX7_isApart_21 : decode cX7_isApart 21 = .ok (.getfield 51, 3) := by decide +kernel
theorem dX7_isApart_24 : decode cX7_isApart 24 = .ok (.iload 4, 2) := by decide +kernel
theorem dX7_isApart_26 : decode cX7_isApart 26 = .ok (.iaload, 1) := by decide +kernel
theorem dX7_isApart_27 : decode cX7_isApart 27 = .ok (.iconst 1, 1) := by decide +kernel
theorem dX7_isApart_28 : decode cX7_isApart 28 = .ok (.if_icmp .ne 87, 3) := by decide +kernel
theorem dX7_isApart_31 : decode cX7_isApart 31 = .ok (.aload_n 0, 1) := by decide +kernel
theorem dX7_isApart_32 : decode cX7_isApart 32 = .ok (.iload 4, 2) := by decide +kernel
theorem dX7_isApart_34 : decode cX7_isApart 34 = .ok (.invokevirtual 127, 3) := by decide +kernel
theorem dX7_isApart_37 : decode cX7_isApart 37 = .ok (.ifCond .eq 78, 3) := by decide +kernel
theorem dX7_isApart_40 : decode cX7_isApart 40 = .ok (.aload_n 0, 1) := by decide +kernel
theorem dX7_isApart_41 : decode cX7_isApart 41 = .ok (.getfield 54, 3) := by decide +kernel
theorem dX7_isApart_44 : decode cX7_isApart 44 = .ok (.iload 4, 2) := by decide +kernel
theorem dX7_isApart_46 : decode cX7_isApart 46 = .ok (.iaload, 1) := by decide +kernel
theorem dX7_isApart_47 : decode cX7_isApart 47 = .ok (.bipush 12, 2) := by decide +kernel
theorem dX7_isApart_49 : decode cX7_isApart 49 = .ok (.idiv, 1) := by decide +kernel
theorem dX7_isApart_50 : decode cX7_isApart 50 = .ok (.iload_n 2, 1) := by decide +kernel
theorem dX7_isApart_51 : decode cX7_isApart 51 = .ok (.isub, 1) := by decide +kernel
theorem dX7_isApart_52 : decode cX7_isApart 52 = .ok (.istore 5, 2) := by decide +kernel
theorem dX7_isApart_54 : decode cX7_isApart 54 = .ok (.iload_n 3, 1) := by decide +kernel
theorem dX7_isApart_55 : decode cX7_isApart 55 = .ok (.ifCond .eq 58, 3) := by decide +kernel
theorem dX7_isApart_58 : decode cX7_isApart 58 = .ok (.iload 5, 2) := by decide +kernel
theorem dX7_isApart_60 : decode cX7_isApart 60 = .ok (.ifCond .ne 19, 3) := by decide +kernel
theorem dX7_isApart_63 : decode cX7_isApart 63 = .ok (.aload_n 0, 1) := by decide +kernel
theorem dX7_isApart_64 : decode cX7_isApart 64 = .ok (.getfield 45, 3) := by decide +kernel
theorem dX7_isApart_67 : decode cX7_isApart 67 = .ok (.iload 4, 2) := by decide +kernel
theorem dX7_isApart_69 : decode cX7_isApart 69 = .ok (.iaload, 1) := by decide +kernel
theorem dX7_isApart_70 : decode cX7_isApart 70 = .ok (.aload_n 0, 1) := by decide +kernel
theorem dX7_isApart_71 : decode cX7_isApart 71 = .ok (.getfield 45, 3) := by decide +kernel
theorem dX7_isApart_74 : decode cX7_isApart 74 = .ok (.iload_n 1, 1) := by decide +kernel
theorem dX7_isApart_75 : decode cX7_isApart 75 = .ok (.iaload, 1) := by decide +kernel
theorem dX7_isApart_76 : decode cX7_isApart 76 = .ok (.if_icmp .ne 37, 3) := by decide +kernel
theorem dX7_isApart_79 : decode cX7_isApart 79 = .ok (.iload 5, 2) := by decide +kernel
theorem dX7_isApart_81 : decode cX7_isApart 81 = .ok (.iload 5, 2) := by decide +kernel
theorem dX7_isApart_83 : decode cX7_isApart 83 = .ok (.imul, 1) := by decide +kernel
theorem dX7_isApart_84 : decode cX7_isApart 84 = .ok (.iconst 1, 1) := by decide +kernel
theorem dX7_isApart_85 : decode cX7_isApart 85 = .ok (.if_icmp .ne 24, 3) := by decide +kernel
theorem dX7_isApart_88 : decode cX7_isApart 88 = .ok (.aload_n 0, 1) := by decide +kernel
theorem dX7_isApart_89 : decode cX7_isApart 89 = .ok (.getfield 45, 3) := by decide +kernel
theorem dX7_isApart_92 : decode cX7_isApart 92 = .ok (.iload 4, 2) := by decide +kernel
theorem dX7_isApart_94 : decode cX7_isApart 94 = .ok (.iaload, 1) := by decide +kernel
theorem dX7_isApart_95 : decode cX7_isApart 95 = .ok (.iconst 4, 1) := by decide +kernel
theorem dX7_isApart_96 : decode cX7_isApart 96 = .ok (.if_icmp .eq 17, 3) := by decide +kernel
theorem dX7_isApart_99 : decode cX7_isApart 99 = .ok (.aload_n 0, 1) := by decide +kernel
theorem dX7_isApart_100 : decode cX7_isApart 100 = .ok (.getfield 45, 3) := by decide +kernel
theorem dX7_isApart_103 : decode cX7_isApart 103 = .ok (.iload_n 1, 1) := by decide +kernel
theorem dX7_isApart_104 : decode cX7_isApart 104 = .ok (.iaload, 1) := by decide +kernel
theorem dX7_isApart_105 : decode cX7_isApart 105 = .ok (.iconst 4, 1) := by decide +kernel
theorem dX7_isApart_106 : decode cX7_isApart 106 = .ok (.if_icmp .eq 7, 3) := by decide +kernel
theorem dX7_isApart_109 : decode cX7_isApart 109 = .ok (.iconst 1, 1) := by decide +kernel
theorem dX7_isApart_110 : decode cX7_isApart 110 = .ok (.goto 4, 3) := by decide +kernel
theorem dX7_isApart_113 : decode cX7_isApart 113 = .ok (.iconst 0, 1) := by decide +kernel
theorem dX7_isApart_114 : decode cX7_isApart 114 = .ok (.istore_n 3, 1) := by decide +kernel
theorem dX7_isApart_115 : decode cX7_isApart 115 = .ok (.iinc 4 1, 3) := by decide +kernel
theorem dX7_isApart_118 : decode cX7_isApart 118 = .ok (.goto (-113), 3) := by decide +kernel
theorem dX7_isApart_121 : decode cX7_isApart 121 = .ok (.iload_n 3, 1) := by decide +kernel
theorem dX7_isApart_122 : decode cX7_isApart 122 = .ok (.ireturn, 1) := by decide +kernel
def pX7_isApart_b115 (K5 : Int32 → Int32 → Int32 → Int32 → St → Option (Int32 × St)) (x1 : Int32) (x2 : Int32) (x3 : Int32) (x4 : Int32) (v : St) : Option (Int32 × St) := K5 x1 x2 x3 (x4 + 1) v
def pX7_isApart_b114 (K5 : Int32 → Int32 → Int32 → Int32 → St → Option (Int32 × St)) (x1 : Int32) (x2 : Int32) (x4 : Int32) (y0 : Int32) (v : St) : Option (Int32 × St) := pX7_isApart_b115 K5 x1 x2 y0 x4 v
def pX7_isApart_b113 (K5 : Int32 → Int32 → Int32 → Int32 → St → Option (Int32 × St)) (x1 : Int32) (x2 : Int32) (x4 : Int32) (v : St) : Option (Int32 × St) := pX7_isApart_b114 K5 x1 x2 x4 0 v
def pX7_isApart_b109 (K5 : Int32 → Int32 → Int32 → Int32 → St → Option (Int32 × St)) (x1 : Int32) (x2 : Int32) (x4 : Int32) (v : St) : Option (Int32 × St) := pX7_isApart_b114 K5 x1 x2 x4 1 v
def pX7_isApart_b79 (K5 : Int32 → Int32 → Int32 → Int32 → St → Option (Int32 × St)) (x1 : Int32) (x2 : Int32) (x4 : Int32) (x5 : Int32) (v : St) : Option (Int32 × St) := if (x5 * x5) = 1 then (if (x4 < 0 ∨ 60 ≤ x4.toNatClampNeg) then none else (if (v.1 8 x4.toNatClampNeg) = 4 then (pX7_isApart_b113 K5 x1 x2 x4 v) else (if (x1 < 0 ∨ 60 ≤ x1.toNatClampNeg) then none else (if (v.1 8 x1.toNatClampNeg) = 4 then (pX7_isApart_b113 K5 x1 x2 x4 v) else (pX7_isApart_b109 K5 x1 x2 x4 v))))) else (pX7_isApart_b109 K5 x1 x2 x4 v)
def pX7_isApart_b5  (n : Nat) : Int32 → Int32 → Int32 → Int32 → St → Option (Int32 × St) := Nat.rec (fun _ _ _ _ _ => none) (fun _ K5 x1 x2 x3 x4 v => if (v.2 4) ≤ x4 then (if x3 = 0 ∨ x3 = 1 then some (x3, v) else none) else (if x4 = x1 then (pX7_isApart_b115 K5 x1 x2 x3 x4 v) else (if (x4 < 0 ∨ 60 ≤ x4.toNatClampNeg) then none else (if (v.1 10 x4.toNatClampNeg) = 1 then (bnd (pX7_isDangerous x4 v) (fun r5 w6 => if r5 = 0 then (pX7_isApart_b115 K5 x1 x2 x3 x4 w6) else (if (x4 < 0 ∨ 60 ≤ x4.toNatClampNeg) then none else (if x3 = 0 then (pX7_isApart_b113 K5 x1 x2 x4 w6) else (if (((w6.1 11 x4.toNatClampNeg) / 12) - x2) = 0 then (if (x4 < 0 ∨ 60 ≤ x4.toNatClampNeg) then none else (if (x1 < 0 ∨ 60 ≤ x1.toNatClampNeg) then none else (if (w6.1 8 x4.toNatClampNeg) = (w6.1 8 x1.toNatClampNeg) then (pX7_isApart_b79 K5 x1 x2 x4 (((w6.1 11 x4.toNatClampNeg) / 12) - x2) w6) else (pX7_isApart_b113 K5 x1 x2 x4 w6)))) else (pX7_isApart_b79 K5 x1 x2 x4 (((w6.1 11 x4.toNatClampNeg) / 12) - x2) w6)))))) else (pX7_isApart_b115 K5 x1 x2 x3 x4 v))))) n
def pX7_isApart (a1 : Int32) (a2 : Int32) (u : St) : Option (Int32 × St) := pX7_isApart_b5 100 a1 a2 1 0 u
set_option maxHeartbeats 4000000 in
set_option maxRecDepth 20000 in
theorem kX7_isApart {l : Launch} {D : va_G} {Y : Nat → ClassId} {q : Nat → Nat} {a1 a2 : Int32} {u u1 : St} {r : Int32} (hX : pX7_isApart a1 a2 u = some (r, u1)) : CMi l yX7_isApart cX7_isApart 6 (some .boolean) 1 21 D Y (wM Y q u) (wM Y q u1) [.ref (q 0), .int a1, .int a2] r := by
  refine cm_ofi (by decide) (Nat.le_of_ble_eq_true rfl) rfl (fun p e s m args below meth c A F hr hlk => ?_)
  show GW p l e { frames := 1, cells := 0, slots := 0, locals := 21 } s m args below meth c D A 6 0 0 (MQ below (QI D (wM Y q u1) r A) args s 0 0 A) (wM Y q u) 0 [(0, .ref (q 0)), (1, .int a1), (2, .int a2)] []
  have b115 : ∀ (K5 : Int32 → Int32 → Int32 → Int32 → St → Option (Int32 × St)) (hK5 : ∀ (x1 : Int32) (x2 : Int32) (x3 : Int32) (x4 : Int32) (v : St), K5 x1 x2 x3 x4 v = some (r, u1) → GW p l e { frames := 1, cells := 0, slots := 0, locals := 21 } s m args below meth c D A 6 0 0 (MQ below (QI D (wM Y q u1) r A) args s 0 0 A) (wM Y q v) 5 [(0, .ref (q 0)), (1, .int x1), (2, .int x2), (3, .int x3), (4, .int x4)] []) (x1 : Int32) (x2 : Int32) (x3 : Int32) (x4 : Int32) (v : St), pX7_isApart_b115 K5 x1 x2 x3 x4 v = some (r, u1) → GW p l e { frames := 1, cells := 0, slots := 0, locals := 21 } s m args below meth c D A 6 0 0 (MQ below (QI D (wM Y q u1) r A) args s 0 0 A) (wM Y q v) 115 [(0, .ref (q 0)), (1, .int x1), (2, .int x2), (3, .int x3), (4, .int x4)] [] := by
    intro K5 hK5 x1 x2 x3 x4 v hX
    have hX : (K5 x1 x2 x3 (x4 + 1) v) = some (r, u1) := hX
    refine g_iinc (v := x4 + 1) (lv' := [(4, .int (x4 + 1)), (0, .ref (q 0)), (1, .int x1), (2, .int x2), (3, .int x3)]) F dX7_isApart_115 4 rfl rfl (by decide) rfl ?_
    refine g_goto (tgt := 5) F dX7_isApart_118 (by decide) ?_
    refine g_sub [1, 2, 3, 4, 0] rfl ?_
    exact hK5 x1 x2 x3 (x4 + 1) v hX
  have b114 : ∀ (K5 : Int32 → Int32 → Int32 → Int32 → St → Option (Int32 × St)) (hK5 : ∀ (x1 : Int32) (x2 : Int32) (x3 : Int32) (x4 : Int32) (v : St), K5 x1 x2 x3 x4 v = some (r, u1) → GW p l e { frames := 1, cells := 0, slots := 0, locals := 21 } s m args below meth c D A 6 0 0 (MQ below (QI D (wM Y q u1) r A) args s 0 0 A) (wM Y q v) 5 [(0, .ref (q 0)), (1, .int x1), (2, .int x2), (3, .int x3), (4, .int x4)] []) (x1 : Int32) (x2 : Int32) (x4 : Int32) (y0 : Int32) (v : St), pX7_isApart_b114 K5 x1 x2 x4 y0 v = some (r, u1) → GW p l e { frames := 1, cells := 0, slots := 0, locals := 21 } s m args below meth c D A 6 0 0 (MQ below (QI D (wM Y q u1) r A) args s 0 0 A) (wM Y q v) 114 [(0, .ref (q 0)), (1, .int x1), (2, .int x2), (4, .int x4)] [.int y0] := by
    intro K5 hK5 x1 x2 x4 y0 v hX
    have hX : (pX7_isApart_b115 K5 x1 x2 y0 x4 v) = some (r, u1) := hX
    refine g_istore_n (lv' := [(3, .int y0), (0, .ref (q 0)), (1, .int x1), (2, .int x2), (4, .int x4)]) F dX7_isApart_114 rfl (by decide) rfl ?_
    refine g_sub [1, 2, 3, 0, 4] rfl ?_
    exact b115 K5 hK5 x1 x2 y0 x4 v hX
  have b113 : ∀ (K5 : Int32 → Int32 → Int32 → Int32 → St → Option (Int32 × St)) (hK5 : ∀ (x1 : Int32) (x2 : Int32) (x3 : Int32) (x4 : Int32) (v : St), K5 x1 x2 x3 x4 v = some (r, u1) → GW p l e { frames := 1, cells := 0, slots := 0, locals := 21 } s m args below meth c D A 6 0 0 (MQ below (QI D (wM Y q u1) r A) args s 0 0 A) (wM Y q v) 5 [(0, .ref (q 0)), (1, .int x1), (2, .int x2), (3, .int x3), (4, .int x4)] []) (x1 : Int32) (x2 : Int32) (x4 : Int32) (v : St), pX7_isApart_b113 K5 x1 x2 x4 v = some (r, u1) → GW p l e { frames := 1, cells := 0, slots := 0, locals := 21 } s m args below meth c D A 6 0 0 (MQ below (QI D (wM Y q u1) r A) args s 0 0 A) (wM Y q v) 113 [(0, .ref (q 0)), (1, .int x1), (2, .int x2), (4, .int x4)] [] := by
    intro K5 hK5 x1 x2 x4 v hX
    have hX : (pX7_isApart_b114 K5 x1 x2 x4 0 v) = some (r, u1) := hX
    refine g_iconst (v := 0) F dX7_isApart_113 (by decide) ?_
    exact b114 K5 hK5 x1 x2 x4 0 v hX
  have b109 : ∀ (K5 : Int32 → Int32 → Int32 → Int32 → St → Option (Int32 × St)) (hK5 : ∀ (x1 : Int32) (x2 : Int32) (x3 : Int32) (x4 : Int32) (v : St), K5 x1 x2 x3 x4 v = some (r, u1) → GW p l e { frames := 1, cells := 0, slots := 0, locals := 21 } s m args below meth c D A 6 0 0 (MQ below (QI D (wM Y q u1) r A) args s 0 0 A) (wM Y q v) 5 [(0, .ref (q 0)), (1, .int x1), (2, .int x2), (3, .int x3), (4, .int x4)] []) (x1 : Int32) (x2 : Int32) (x4 : Int32) (v : St), pX7_isApart_b109 K5 x1 x2 x4 v = some (r, u1) → GW p l e { frames := 1, cells := 0, slots := 0, locals := 21 } s m args below meth c D A 6 0 0 (MQ below (QI D (wM Y q u1) r A) args s 0 0 A) (wM Y q v) 109 [(0, .ref (q 0)), (1, .int x1), (2, .int x2), (4, .int x4)] [] := by
    intro K5 hK5 x1 x2 x4 v hX
    have hX : (pX7_isApart_b114 K5 x1 x2 x4 1 v) = some (r, u1) := hX
    refine g_iconst (v := 1) F dX7_isApart_109 (by decide) ?_
    refine g_goto (tgt := 114) F dX7_isApart_110 (by decide) ?_
    exact b114 K5 hK5 x1 x2 x4 1 v hX
  have b79 : ∀ (K5 : Int32 → Int32 → Int32 → Int32 → St → Option (Int32 × St)) (hK5 : ∀ (x1 : Int32) (x2 : Int32) (x3 : Int32) (x4 : Int32) (v : St), K5 x1 x2 x3 x4 v = some (r, u1) → GW p l e { frames := 1, cells := 0, slots := 0, locals := 21 } s m args below meth c D A 6 0 0 (MQ below (QI D (wM Y q u1) r A) args s 0 0 A) (wM Y q v) 5 [(0, .ref (q 0)), (1, .int x1), (2, .int x2), (3, .int x3), (4, .int x4)] []) (x1 : Int32) (x2 : Int32) (x4 : Int32) (x5 : Int32) (v : St), pX7_isApart_b79 K5 x1 x2 x4 x5 v = some (r, u1) → GW p l e { frames := 1, cells := 0, slots := 0, locals := 21 } s m args below meth c D A 6 0 0 (MQ below (QI D (wM Y q u1) r A) args s 0 0 A) (wM Y q v) 79 [(0, .ref (q 0)), (1, .int x1), (2, .int x2), (4, .int x4), (5, .int x5)] [] := by
    intro K5 hK5 x1 x2 x4 x5 v hX
    have hX : (if (x5 * x5) = 1 then (if (x4 < 0 ∨ 60 ≤ x4.toNatClampNeg) then none else (if (v.1 8 x4.toNatClampNeg) = 4 then (pX7_isApart_b113 K5 x1 x2 x4 v) else (if (x1 < 0 ∨ 60 ≤ x1.toNatClampNeg) then none else (if (v.1 8 x1.toNatClampNeg) = 4 then (pX7_isApart_b113 K5 x1 x2 x4 v) else (pX7_isApart_b109 K5 x1 x2 x4 v))))) else (pX7_isApart_b109 K5 x1 x2 x4 v)) = some (r, u1) := hX
    refine g_iload F dX7_isApart_79 4 rfl ?_
    refine g_iload F dX7_isApart_81 4 rfl ?_
    refine g_imul F dX7_isApart_83 ?_
    refine g_iconst (v := 1) F dX7_isApart_84 (by decide) ?_
    refine g_icmp_ne (tgt := 109) F dX7_isApart_85 (by decide) (fun c12 => ?_) (fun c12 => ?_)
    · have hX := if_f hX c12
      refine g_sub [0, 1, 2, 3] rfl ?_
      exact b109 K5 hK5 x1 x2 x4 v hX
    · have hX := if_t hX c12
      refine g_aload_n F dX7_isApart_88 0 rfl rfl ?_
      refine G_X7_45 F dX7_isApart_89 ?_
      refine g_iload F dX7_isApart_92 3 rfl ?_
      obtain ⟨hI13, hX⟩ := inb hX
      refine AL_8 F hI13 dX7_isApart_94 ?_
      refine g_iconst (v := 4) F dX7_isApart_95 (by decide) ?_
      refine g_icmp_eq (tgt := 113) F dX7_isApart_96 (by decide) (fun c14 => ?_) (fun c14 => ?_)
      · have hX := if_t hX c14
        refine g_sub [0, 1, 2, 3] rfl ?_
        exact b113 K5 hK5 x1 x2 x4 v hX
      · have hX := if_f hX c14
        refine g_aload_n F dX7_isApart_99 0 rfl rfl ?_
        refine G_X7_45 F dX7_isApart_100 ?_
        refine g_iload_n F dX7_isApart_103 1 rfl rfl ?_
        obtain ⟨hI15, hX⟩ := inb hX
        refine AL_8 F hI15 dX7_isApart_104 ?_
        refine g_iconst (v := 4) F dX7_isApart_105 (by decide) ?_
        refine g_icmp_eq (tgt := 113) F dX7_isApart_106 (by decide) (fun c16 => ?_) (fun c16 => ?_)
        · have hX := if_t hX c16
          refine g_sub [0, 1, 2, 3] rfl ?_
          exact b113 K5 hK5 x1 x2 x4 v hX
        · have hX := if_f hX c16
          refine g_sub [0, 1, 2, 3] rfl ?_
          exact b109 K5 hK5 x1 x2 x4 v hX
  have b5 : ∀  (n : Nat) (x1 : Int32) (x2 : Int32) (x3 : Int32) (x4 : Int32) (v : St), pX7_isApart_b5  n x1 x2 x3 x4 v = some (r, u1) → GW p l e { frames := 1, cells := 0, slots := 0, locals := 21 } s m args below meth c D A 6 0 0 (MQ below (QI D (wM Y q u1) r A) args s 0 0 A) (wM Y q v) 5 [(0, .ref (q 0)), (1, .int x1), (2, .int x2), (3, .int x3), (4, .int x4)] [] := by
    intro  n
    induction n with
    | zero => intro x1 x2 x3 x4 v hX; cases hX
    | succ n ih =>
      intro x1 x2 x3 x4 v hX
      obtain ⟨K5, eK⟩ : ∃ K : Int32 → Int32 → Int32 → Int32 → St → Option (Int32 × St), K = pX7_isApart_b5  n := ⟨_, rfl⟩
      have hK5 : ∀ (x1 : Int32) (x2 : Int32) (x3 : Int32) (x4 : Int32) (v : St), K5 x1 x2 x3 x4 v = some (r, u1) → GW p l e { frames := 1, cells := 0, slots := 0, locals := 21 } s m args below meth c D A 6 0 0 (MQ below (QI D (wM Y q u1) r A) args s 0 0 A) (wM Y q v) 5 [(0, .ref (q 0)), (1, .int x1), (2, .int x2), (3, .int x3), (4, .int x4)] [] := by rw [eK]; exact ih
      have hX : (if (v.2 4) ≤ x4 then (if x3 = 0 ∨ x3 = 1 then some (x3, v) else none) else (if x4 = x1 then (pX7_isApart_b115 K5 x1 x2 x3 x4 v) else (if (x4 < 0 ∨ 60 ≤ x4.toNatClampNeg) then none else (if (v.1 10 x4.toNatClampNeg) = 1 then (bnd (pX7_isDangerous x4 v) (fun r5 w6 => if r5 = 0 then (pX7_isApart_b115 K5 x1 x2 x3 x4 w6) else (if (x4 < 0 ∨ 60 ≤ x4.toNatClampNeg) then none else (if x3 = 0 then (pX7_isApart_b113 K5 x1 x2 x4 w6) else (if (((w6.1 11 x4.toNatClampNeg) / 12) - x2) = 0 then (if (x4 < 0 ∨ 60 ≤ x4.toNatClampNeg) then none else (if (x1 < 0 ∨ 60 ≤ x1.toNatClampNeg) then none else (if (w6.1 8 x4.toNatClampNeg) = (w6.1 8 x1.toNatClampNeg) then (pX7_isApart_b79 K5 x1 x2 x4 (((w6.1 11 x4.toNatClampNeg) / 12) - x2) w6) else (pX7_isApart_b113 K5 x1 x2 x4 w6)))) else (pX7_isApart_b79 K5 x1 x2 x4 (((w6.1 11 x4.toNatClampNeg) / 12) - x2) w6)))))) else (pX7_isApart_b115 K5 x1 x2 x3 x4 v))))) = some (r, u1) := by rw [eK]; exact hX
      refine g_iload F dX7_isApart_5 4 rfl ?_
      refine g_aload_n F dX7_isApart_7 0 rfl rfl ?_
      refine G_X7_94 F dX7_isApart_8 ?_
      refine g_icmp_ge (tgt := 121) F dX7_isApart_11 (by decide) (fun c1 => ?_) (fun c1 => ?_)
      · have hX := if_t hX c1
        refine g_iload_n F dX7_isApart_121 3 rfl rfl ?_
        exact g_retCb (wf := wM Y q) F hr hlk dX7_isApart_122 hX
      · have hX := if_f hX c1
        refine g_iload F dX7_isApart_14 4 rfl ?_
        refine g_iload_n F dX7_isApart_16 1 rfl rfl ?_
        refine g_icmp_eq (tgt := 115) F dX7_isApart_17 (by decide) (fun c2 => ?_) (fun c2 => ?_)
        · have hX := if_t hX c2
          exact b115 K5 hK5 x1 x2 x3 x4 v hX
        · have hX := if_f hX c2
          refine g_aload_n F dX7_isApart_20 0 rfl rfl ?_
          refine G_X7_51 F dX7_isApart_21 ?_
          refine g_iload F dX7_isApart_24 4 rfl ?_
          obtain ⟨hI3, hX⟩ := inb hX
          refine AL_10 F hI3 dX7_isApart_26 ?_
          refine g_iconst (v := 1) F dX7_isApart_27 (by decide) ?_
          refine g_icmp_ne (tgt := 115) F dX7_isApart_28 (by decide) (fun c4 => ?_) (fun c4 => ?_)
          · have hX := if_f hX c4
            exact b115 K5 hK5 x1 x2 x3 x4 v hX
          · have hX := if_t hX c4
            refine g_aload_n F dX7_isApart_31 0 rfl rfl ?_
            refine g_iload F dX7_isApart_32 4 rfl ?_
            obtain ⟨r5, w6, hc7, hX⟩ := bnd_s hX
            refine callX7_isDangerous F hc7 ml_X7_127 ⟨Nat.le_of_ble_eq_true rfl, Nat.le_of_ble_eq_true rfl⟩ (Nat.le_of_ble_eq_true rfl) dX7_isApart_34 ?_
            refine g_if_eq (tgt := 115) F dX7_isApart_37 (by decide) (fun c8 => ?_) (fun c8 => ?_)
            · have hX := if_t hX c8
              exact b115 K5 hK5 x1 x2 x3 x4 w6 hX
            · have hX := if_f hX c8
              refine g_aload_n F dX7_isApart_40 0 rfl rfl ?_
              refine G_X7_54 F dX7_isApart_41 ?_
              refine g_iload F dX7_isApart_44 4 rfl ?_
              obtain ⟨hI9, hX⟩ := inb hX
              refine AL_11 F hI9 dX7_isApart_46 ?_
              refine g_bipush (v := 12) F dX7_isApart_47 (by decide) ?_
              refine g_idiv F dX7_isApart_49 (by decide) ?_
              refine g_iload_n F dX7_isApart_50 2 rfl rfl ?_
              refine g_isub F dX7_isApart_51 ?_
              refine g_istore (lv' := [(5, .int (((w6.1 11 x4.toNatClampNeg) / 12) - x2)), (0, .ref (q 0)), (1, .int x1), (2, .int x2), (3, .int x3), (4, .int x4)]) F dX7_isApart_52 (by decide) rfl ?_
              refine g_iload_n F dX7_isApart_54 4 rfl rfl ?_
              refine g_if_eq (tgt := 113) F dX7_isApart_55 (by decide) (fun c10 => ?_) (fun c10 => ?_)
              · have hX := if_t hX c10
                refine g_sub [1, 2, 3, 5] rfl ?_
                exact b113 K5 hK5 x1 x2 x4 w6 hX
              · have hX := if_f hX c10
                refine g_iload F dX7_isApart_58 0 rfl ?_
                refine g_if_ne (tgt := 79) F dX7_isApart_60 (by decide) (fun c11 => ?_) (fun c11 => ?_)
                · have hX := if_f hX c11
                  refine g_sub [1, 2, 3, 5, 0] rfl ?_
                  exact b79 K5 hK5 x1 x2 x4 (((w6.1 11 x4.toNatClampNeg) / 12) - x2) w6 hX
                · have hX := if_t hX c11
                  refine g_aload_n F dX7_isApart_63 1 rfl rfl ?_
                  refine G_X7_45 F dX7_isApart_64 ?_
                  refine g_iload F dX7_isApart_67 5 rfl ?_
                  obtain ⟨hI17, hX⟩ := inb hX
                  refine AL_8 F hI17 dX7_isApart_69 ?_
                  refine g_aload_n F dX7_isApart_70 1 rfl rfl ?_
                  refine G_X7_45 F dX7_isApart_71 ?_
                  refine g_iload_n F dX7_isApart_74 2 rfl rfl ?_
                  obtain ⟨hI18, hX⟩ := inb hX
                  refine AL_8 F hI18 dX7_isApart_75 ?_
                  refine g_icmp_ne (tgt := 113) F dX7_isApart_76 (by decide) (fun c19 => ?_) (fun c19 => ?_)
                  · have hX := if_f hX c19
                    refine g_sub [1, 2, 3, 5] rfl ?_
                    exact b113 K5 hK5 x1 x2 x4 w6 hX
                  · have hX := if_t hX c19
                    refine g_sub [1, 2, 3, 5, 0] rfl ?_
                    exact b79 K5 hK5 x1 x2 x4 (((w6.1 11 x4.toNatClampNeg) / 12) - x2) w6 hX
  have hX : (pX7_isApart_b5 100 a1 a2 1 0 u) = some (r, u1) := hX
  refine g_iconst (v := 1) F dX7_isApart_0 (by decide) ?_
  refine g_istore_n (lv' := [(3, .int 1), (0, .ref (q 0)), (1, .int a1), (2, .int a2)]) F dX7_isApart_1 rfl (by decide) rfl ?_
  refine g_iconst (v := 0) F dX7_isApart_2 (by decide) ?_
  refine g_istore (lv' := [(4, .int 0), (3, .int 1), (0, .ref (q 0)), (1, .int a1), (2, .int a2)]) F dX7_isApart_3 (by decide) rfl ?_
  refine g_sub [2, 3, 4, 1, 0] rfl ?_
  exact b5 100 a1 a2 1 0 u hX
theorem callX7_isApart {p : Program} {l : Launch} {e : Env} {R : Room} {s : State} {m : MethodId} {args : Array Value} {below : List Frame} {meth : Method} {c : Code} {D : va_G} {Y : Nat → ClassId} {A : Nat → Prop} {cc : ByteArray} {nL : Nat} {own : String} {Q : State → Prop} {pc : Nat} {lv : List (Nat × Value)} {rest : List Value} {q : Nat → Nat} {a1 a2 : Int32} {u u1 : St} {r : Int32} (F : Fx p s m args c D Y A cc nL own) (hX : pX7_isApart a1 a2 u = some (r, u1)) {index : Nat} (hml : Cond.methodLink own index yX7_isApart ∈ TBL) (hR : 1 + 1 ≤ R.frames ∧ 8 + (6 + 11) + 21 ≤ R.locals) (hcat : (rest.map fun v => v.category).sum ≤ 8) (hd : decode cc pc = .ok (.invokevirtual index, 3)) (kk : GW p l e R s m args below meth c D A nL 0 0 Q (wM Y q u1) (pc + 3) lv (.int r :: rest)) : GW p l e R s m args below meth c D A nL 0 0 Q (wM Y q u) pc lv (.int a2 :: .int a1 :: .ref (q 0) :: rest) := g_callVi (ws := wM Y q u) (n := 2) (q0 := 0) (As := [.int a1, .int a2]) F [] [] (kX7_isApart hX) (List.append_nil _).symm (List.append_nil _) (by unfold mOK; decide +kernel) rfl rfl cd_yX7_isApart hml im_yX7_isApart se_yX7_isApart in_X7 rfl rfl hR ⟨Nat.zero_le _, Nat.zero_le _⟩ rfl hcat hd kk
theorem dX7_slotMay_0 : decode cX7_slotMay 0 = .ok (.iload_n 2, 1) := by decide +kernel
theorem dX7_slotMay_1 : decode cX7_slotMay 1 = .ok (.iconst 4, 1) := by decide +kernel
theorem dX7_slotMay_2 : decode cX7_slotMay 2 = .ok (.irem, 1) := by decide +kernel
theorem dX7_slotMay_3 : decode cX7_slotMay 3 = .ok (.istore_n 3, 1) := by decide +kernel
theorem dX7_slotMay_4 : decode cX7_slotMay 4 = .ok (.iload_n 3, 1) := by decide +kernel
theorem dX7_slotMay_5 : decode cX7_slotMay 5 = .ok (.iconst 2, 1) := by decide +kernel
theorem dX7_slotMay_6 : decode cX7_slotMay 6 = .ok (.irem, 1) := by decide +kernel
theorem dX7_slotMay_7 : decode cX7_slotMay 7 = .ok (.iconst 1, 1) := by decide +kernel
theorem dX7_slotMay_8 : decode cX7_slotMay 8 = .ok (.if_icmp .ne 14, 3) := by decide +kernel
theorem dX7_slotMay_11 : decode cX7_slotMay 11 = .ok (.aload_n 0, 1) := by decide +kernel
theorem dX7_slotMay_12 : decode cX7_slotMay 12 = .ok (.getfield 7, 3) := by decide +kernel
theorem dX7_slotMay_15 : decode cX7_slotMay 15 = .ok (.iload_n 2, 1) := by decide +kernel
theorem dX7_slotMay_16 : decode cX7_slotMay 16 = .ok (.iconst 1, 1) := by decide +kernel
theorem dX7_slotMay_17 : decode cX7_slotMay 17 = .ok (.isub, 1) := by decide +kernel
theorem dX7_slotMay_18 : decode cX7_slotMay 18 = .ok (.iaload, 1) := by decide +kernel
theorem dX7_slotMay_19 : decode cX7_slotMay 19 = .ok (.goto 4, 3) := by decide +kernel
theorem dX7_slotMay_22 : decode cX7_slotMay 22 = .ok (.iconst (-1), 1) := by decide +kernel
theorem dX7_slotMay_23 : decode cX7_slotMay 23 = .ok (.istore 4, 2) := by decide +kernel
theorem dX7_slotMay_25 : decode cX7_slotMay 25 = .ok (.aload_n 0, 1) := by decide +kernel
theorem dX7_slotMay_26 : decode cX7_slotMay 26 = .ok (.getfield 7, 3) := by decide +kernel
theorem dX7_slotMay_29 : decode cX7_slotMay 29 = .ok (.iload_n 2, 1) := by decide +kernel
theorem dX7_slotMay_30 : decode cX7_slotMay 30 = .ok (.iaload, 1) := by decide +kernel
theorem dX7_slotMay_31 : decode cX7_slotMay 31 = .ok (.iconst (-1), 1) := by decide +kernel
theorem dX7_slotMay_32 : decode cX7_slotMay 32 = .ok (.if_icmp .eq 13, 3) := by decide +kernel
theorem dX7_slotMay_35 : decode cX7_slotMay 35 = .ok (.aload_n 0, 1) := by decide +kernel
theorem dX7_slotMay_36 : decode cX7_slotMay 36 = .ok (.getfield 7, 3) := by decide +kernel
theorem dX7_slotMay_39 : decode cX7_slotMay 39 = .ok (.iload_n 2, 1) := by decide +kernel
theorem dX7_slotMay_40 : decode cX7_slotMay 40 = .ok (.iaload, 1) := by decide +kernel
theorem dX7_slotMay_41 : decode cX7_slotMay 41 = .ok (.iload_n 1, 1) := by decide +kernel
theorem dX7_slotMay_42 : decode cX7_slotMay 42 = .ok (.if_icmp .ne 7, 3) := by decide +kernel
theorem dX7_slotMay_45 : decode cX7_slotMay 45 = .ok (.iconst 1, 1) := by decide +kernel
theorem dX7_slotMay_46 : decode cX7_slotMay 46 = .ok (.goto 4, 3) := by decide +kernel
theorem dX7_slotMay_49 : decode cX7_slotMay 49 = .ok (.iconst 0, 1) := by decide +kernel
theorem dX7_slotMay_50 : decode cX7_slotMay 50 = .ok (.istore 5, 2) := by decide +kernel
theorem dX7_slotMay_52 : decode cX7_slotMay 52 = .ok (.iload_n 3, 1) := by decide +kernel
theorem dX7_slotMay_53 : decode cX7_slotMay 53 = .ok (.iconst 2, 1) := by decide +kernel
theorem dX7_slotMay_54 : decode cX7_slotMay 54 = .ok (.irem, 1) := by decide +kernel
theorem dX7_slotMay_55 : decode cX7_slotMay 55 = .ok (.ifCond .eq 25, 3) := by decide +kernel
theorem dX7_slotMay_58 : decode cX7_slotMay 58 = .ok (.iload 4, 2) := by decide +kernel
theorem dX7_slotMay_60 : decode cX7_slotMay 60 = .ok (.iconst (-1), 1) := by decide +kernel
theorem dX7_slotMay_61 : decode cX7_slotMay 61 = .ok (.if_icmp .eq 23, 3) := by decide +kernel
theorem dX7_slotMay_64 : decode cX7_slotMay 64 = .ok (.iload 4, 2) := by decide +kernel
theorem dX7_slotMay_66 : decode cX7_slotMay 66 = .ok (.iload_n 1, 1) := by decide +kernel
theorem dX7_slotMay_67 : decode cX7_slotMay 67 = .ok (.if_icmp .eq 17, 3) := by decide +kernel
theorem dX7_slotMay_70 : decode cX7_slotMay 70 = .ok (.aload_n 0, 1) := by decide +kernel
theorem dX7_slotMay_71 : decode cX7_slotMay 71 = .ok (.iload_n 1, 1) := by decide +kernel
theorem dX7_slotMay_72 : decode cX7_slotMay 72 = .ok (.iload 4, 2) := by decide +kernel
theorem dX7_slotMay_74 : decode cX7_slotMay 74 = .ok (.invokevirtual 123, 3) := by decide +kernel
theorem dX7_slotMay_77 : decode cX7_slotMay 77 = .ok (.ifCond .eq 7, 3) := by decide +kernel
theorem dX7_slotMay_80 : decode cX7_slotMay 80 = .ok (.iconst 1, 1) := by decide +kernel
theorem dX7_slotMay_81 : decode cX7_slotMay 81 = .ok (.goto 4, 3) := by decide +kernel
theorem dX7_slotMay_84 : decode cX7_slotMay 84 = .ok (.iconst 0, 1) := by decide +kernel
theorem dX7_slotMay_85 : decode cX7_slotMay 85 = .ok (.istore 6, 2) := by decide +kernel
theorem dX7_slotMay_87 : decode cX7_slotMay 87 = .ok (.aload_n 0, 1) := by decide +kernel
theorem dX7_slotMay_88 : decode cX7_slotMay 88 = .ok (.getfield 45, 3) := by decide +kernel
theorem dX7_slotMay_91 : decode cX7_slotMay 91 = .ok (.iload_n 1, 1) := by decide +kernel
theorem dX7_slotMay_92 : decode cX7_slotMay 92 = .ok (.iaload, 1) := by decide +kernel
theorem dX7_slotMay_93 : decode cX7_slotMay 93 = .ok (.iconst 1, 1) := by decide +kernel
theorem dX7_slotMay_94 : decode cX7_slotMay 94 = .ok (.if_icmp .ne 12, 3) := by decide +kernel
theorem dX7_slotMay_97 : decode cX7_slotMay 97 = .ok (.aload_n 0, 1) := by decide +kernel
theorem dX7_slotMay_98 : decode cX7_slotMay 98 = .ok (.getfield 13, 3) := by decide +kernel
theorem dX7_slotMay_101 : decode cX7_slotMay 101 = .ok (.iload_n 2, 1) := by decide +kernel
theorem dX7_slotMay_102 : decode cX7_slotMay 102 = .ok (.baload, 1) := by decide +kernel
theorem dX7_slotMay_103 : decode cX7_slotMay 103 = .ok (.ifCond .eq 7, 3) := by decide +kernel
theorem dX7_slotMay_106 : decode cX7_slotMay 106 = .ok (.iconst 1, 1) := by decide +kernel
theorem dX7_slotMay_107 : decode cX7_slotMay 107 = .ok (.goto 4, 3) := by decide +kernel
theorem dX7_slotMay_110 : decode cX7_slotMay 110 = .ok (.iconst 0, 1) := by decide +kernel
theorem dX7_slotMay_111 : decode cX7_slotMay 111 = .ok (.istore 7, 2) := by decide +kernel
theorem dX7_slotMay_113 : decode cX7_slotMay 113 = .ok (.aload_n 0, 1) := by decide +kernel
theorem dX7_slotMay_114 : decode cX7_slotMay 114 = .ok (.getfield 17, 3) := by decide +kernel
theorem dX7_slotMay_117 : decode cX7_slotMay 117 = .ok (.iload_n 2, 1) := by decide +kernel
theorem dX7_slotMay_118 : decode cX7_slotMay 118 = .ok (.bipush 12, 2) := by decide +kernel
theorem dX7_slotMay_120 : decode cX7_slotMay 120 = .ok (.idiv, 1) := by decide +kernel
theorem dX7_slotMay_121 : decode cX7_slotMay 121 = .ok (.baload, 1) := by decide +kernel
theorem dX7_slotMay_122 : decode cX7_slotMay 122 = .ok (.iload_n 3, 1) := by decide +kernel
theorem dX7_slotMay_123 : decode cX7_slotMay 123 = .ok (.iconst 2, 1) := by decide +kernel
theorem dX7_slotMay_124 : decode cX7_slotMay 124 = .ok (.if_icmp .ge 7, 3) := by decide +kernel
theorem dX7_slotMay_127 : decode cX7_slotMay 127 = .ok (.iconst 1, 1) := by decide +kernel
theorem dX7_slotMay_128 : decode cX7_slotMay 128 = .ok (.goto 4, 3) := by decide +kernel
theorem dX7_slotMay_131 : decode cX7_slotMay 131 = .ok (.iconst 0, 1) := by decide +kernel
theorem dX7_slotMay_132 : decode cX7_slotMay 132 = .ok (.if_icmp .ne 7, 3) := by decide +kernel
theorem dX7_slotMay_135 : decode cX7_slotMay 135 = .ok (.iconst 1, 1) := by decide +kernel
theorem dX7_slotMay_136 : decode cX7_slotMay 136 = .ok (.goto 4, 3) := by decide +kernel
theorem dX7_slotMay_139 : decode cX7_slotMay 139 = .ok (.iconst 0, 1) := by decide +kernel
theorem dX7_slotMay_140 : decode cX7_slotMay 140 = .ok (.istore 8, 2) := by decide +kernel
theorem dX7_slotMay_142 : decode cX7_slotMay 142 = .ok (.iload 5, 2) := by decide +kernel
theorem dX7_slotMay_144 : decode cX7_slotMay 144 = .ok (.ifCond .eq 42, 3) := by decide +kernel
theorem dX7_slotMay_147 : decode cX7_slotMay 147 = .ok (.iload 6, 2) := by decide +kernel
theorem dX7_slotMay_149 : decode cX7_slotMay 149 = .ok (.ifCond .eq 37, 3) := by decide +kernel
theorem dX7_slotMay_152 : decode cX7_slotMay 152 = .ok (.iload 7, 2) := by decide +kernel
theorem dX7_slotMay_154 : decode cX7_slotMay 154 = .ok (.ifCond .eq 32, 3) := by decide +kernel
theorem dX7_slotMay_157 : decode cX7_slotMay 157 = .ok (.iload 8, 2) := by decide +kernel
theorem dX7_slotMay_159 : decode cX7_slotMay 159 = .ok (.ifCond .eq 27, 3) := by decide +kernel
theorem dX7_slotMay_162 : decode cX7_slotMay 162 = .ok (.aload_n 0, 1) := by decide +kernel
theorem dX7_slotMay_163 : decode cX7_slotMay 163 = .ok (.iload_n 1, 1) := by decide +kernel
theorem dX7_slotMay_164 : decode cX7_slotMay 164 = .ok (.invokevirtual 127, 3) := by decide +kernel
theorem dX7_slotMay_167 : decode cX7_slotMay 167 = .ok (.ifCond .eq 15, 3) := by decide +kernel
theorem dX7_slotMay_170 : decode cX7_slotMay 170 = .ok (.aload_n 0, 1) := by decide +kernel
theorem dX7_slotMay_171 : decode cX7_slotMay 171 = .ok (.iload_n 1, 1) := by decide +kernel
theorem dX7_slotMay_172 : decode cX7_slotMay 172 = .ok (.iload_n 2, 1) := by decide +kernel
theorem dX7_slotMay_173 : decode cX7_slotMay 173 = .ok (.bipush 12, 2) := by decide +kernel
theorem dX7_slotMay_175 : decode cX7_slotMay 175 = .ok (.idiv, 1) := by decide +kernel
theorem dX7_slotMay_176 : decode cX7_slotMay 176 = .ok (.invokevirtual 130, 3) := by decide +kernel
theorem dX7_slotMay_179 : decode cX7_slotMay 179 = .ok (.ifCond .eq 7, 3) := by decide +kernel
theorem dX7_slotMay_182 : decode cX7_slotMay 182 = .ok (.iconst 1, 1) := by decide +kernel
theorem dX7_slotMay_183 : decode cX7_slotMay 183 = .ok (.goto 4, 3) := by decide +kernel
theorem dX7_slotMay_186 : decode cX7_slotMay 186 = .ok (.iconst 0, 1) := by decide +kernel
theorem dX7_slotMay_187 : decode cX7_slotMay 187 = .ok (.ireturn, 1) := by decide +kernel
def pX7_slotMay_b186   (v : St) : Option (Int32 × St) := some (0, v)
def pX7_slotMay_b182   (v : St) : Option (Int32 × St) := some (1, v)
def pX7_slotMay_b140  (x1 : Int32) (x2 : Int32) (x5 : Int32) (x6 : Int32) (x7 : Int32) (y0 : Int32) (v : St) : Option (Int32 × St) := if x5 = 0 then (pX7_slotMay_b186 v) else (if x6 = 0 then (pX7_slotMay_b186 v) else (if x7 = 0 then (pX7_slotMay_b186 v) else (if y0 = 0 then (pX7_slotMay_b186 v) else (bnd (pX7_isDangerous x1 v) (fun r14 w15 => if r14 = 0 then (pX7_slotMay_b182 w15) else (bnd (pX7_isApart x1 (x2 / 12) w15) (fun r18 w19 => if r18 = 0 then (pX7_slotMay_b186 w19) else (pX7_slotMay_b182 w19))))))))
def pX7_slotMay_b132  (x1 : Int32) (x2 : Int32) (x5 : Int32) (x6 : Int32) (x7 : Int32) (y0 : Int32) (y1 : Int32) (v : St) : Option (Int32 × St) := if y1 = y0 then (pX7_slotMay_b140 x1 x2 x5 x6 x7 1 v) else (pX7_slotMay_b140 x1 x2 x5 x6 x7 0 v)
def pX7_slotMay_b111  (x1 : Int32) (x2 : Int32) (x3 : Int32) (x5 : Int32) (x6 : Int32) (y0 : Int32) (v : St) : Option (Int32 × St) := if (x2 / 12 < 0 ∨ 6 ≤ (x2 / 12).toNatClampNeg) then none else (if 2 ≤ x3 then (pX7_slotMay_b132 x1 x2 x5 x6 y0 0 (v.1 2 (x2 / 12).toNatClampNeg) v) else (pX7_slotMay_b132 x1 x2 x5 x6 y0 1 (v.1 2 (x2 / 12).toNatClampNeg) v))
def pX7_slotMay_b106  (x1 : Int32) (x2 : Int32) (x3 : Int32) (x5 : Int32) (x6 : Int32) (v : St) : Option (Int32 × St) := pX7_slotMay_b111 x1 x2 x3 x5 x6 1 v
def pX7_slotMay_b85  (x1 : Int32) (x2 : Int32) (x3 : Int32) (x5 : Int32) (y0 : Int32) (v : St) : Option (Int32 × St) := if (x1 < 0 ∨ 60 ≤ x1.toNatClampNeg) then none else (if (v.1 8 x1.toNatClampNeg) = 1 then (if (x2 < 0 ∨ 72 ≤ x2.toNatClampNeg) then none else (if (v.1 1 x2.toNatClampNeg) = 0 then (pX7_slotMay_b111 x1 x2 x3 x5 y0 0 v) else (pX7_slotMay_b106 x1 x2 x3 x5 y0 v))) else (pX7_slotMay_b106 x1 x2 x3 x5 y0 v))
def pX7_slotMay_b80  (x1 : Int32) (x2 : Int32) (x3 : Int32) (x5 : Int32) (v : St) : Option (Int32 × St) := pX7_slotMay_b85 x1 x2 x3 x5 1 v
def pX7_slotMay_b84  (x1 : Int32) (x2 : Int32) (x3 : Int32) (x5 : Int32) (v : St) : Option (Int32 × St) := pX7_slotMay_b85 x1 x2 x3 x5 0 v
def pX7_slotMay_b50  (x1 : Int32) (x2 : Int32) (x3 : Int32) (x4 : Int32) (y0 : Int32) (v : St) : Option (Int32 × St) := if (x3 - x3 / 2 * 2) = 0 then (pX7_slotMay_b80 x1 x2 x3 y0 v) else (if x4 = ((-1)) then (pX7_slotMay_b84 x1 x2 x3 y0 v) else (if x4 = x1 then (pX7_slotMay_b84 x1 x2 x3 y0 v) else (bnd (pX7_fits x1 x4 v) (fun r26 w27 => if r26 = 0 then (pX7_slotMay_b84 x1 x2 x3 y0 w27) else (pX7_slotMay_b80 x1 x2 x3 y0 w27)))))
def pX7_slotMay_b45  (x1 : Int32) (x2 : Int32) (x3 : Int32) (x4 : Int32) (v : St) : Option (Int32 × St) := pX7_slotMay_b50 x1 x2 x3 x4 1 v
def pX7_slotMay_b23  (x1 : Int32) (x2 : Int32) (x3 : Int32) (y0 : Int32) (v : St) : Option (Int32 × St) := if (x2 < 0 ∨ 72 ≤ x2.toNatClampNeg) then none else (if (v.1 0 x2.toNatClampNeg) = ((-1)) then (pX7_slotMay_b45 x1 x2 x3 y0 v) else (if (x2 < 0 ∨ 72 ≤ x2.toNatClampNeg) then none else (if (v.1 0 x2.toNatClampNeg) = x1 then (pX7_slotMay_b45 x1 x2 x3 y0 v) else (pX7_slotMay_b50 x1 x2 x3 y0 0 v))))
def pX7_slotMay (a1 : Int32) (a2 : Int32) (u : St) : Option (Int32 × St) := if ((a2 - a2 / 4 * 4) - (a2 - a2 / 4 * 4) / 2 * 2) = 1 then (if (a2 - 1 < 0 ∨ 72 ≤ (a2 - 1).toNatClampNeg) then none else (pX7_slotMay_b23 a1 a2 (a2 - a2 / 4 * 4) (u.1 0 (a2 - 1).toNatClampNeg) u)) else (pX7_slotMay_b23 a1 a2 (a2 - a2 / 4 * 4) ((-1)) u)
set_option maxHeartbeats 4000000 in
set_option maxRecDepth 20000 in
theorem kX7_slotMay {l : Launch} {D : va_G} {Y : Nat → ClassId} {q : Nat → Nat} {a1 a2 : Int32} {u u1 : St} {r : Int32} (hX : pX7_slotMay a1 a2 u = some (r, u1)) : CMi l yX7_slotMay cX7_slotMay 9 (some .boolean) 2 46 D Y (wM Y q u) (wM Y q u1) [.ref (q 0), .int a1, .int a2] r := by
  refine cm_ofi (by decide) (Nat.le_of_ble_eq_true rfl) rfl (fun p e s m args below meth c A F hr hlk => ?_)
  show GW p l e { frames := 2, cells := 0, slots := 0, locals := 46 } s m args below meth c D A 9 0 0 (MQ below (QI D (wM Y q u1) r A) args s 0 0 A) (wM Y q u) 0 [(0, .ref (q 0)), (1, .int a1), (2, .int a2)] []
  have b186 : ∀   (v : St), pX7_slotMay_b186  v = some (r, u1) → GW p l e { frames := 2, cells := 0, slots := 0, locals := 46 } s m args below meth c D A 9 0 0 (MQ below (QI D (wM Y q u1) r A) args s 0 0 A) (wM Y q v) 186 [] [] := by
    intro  v hX
    have hX : (some (0, v)) = some (r, u1) := hX
    refine g_iconst (v := 0) F dX7_slotMay_186 (by decide) ?_
    exact g_retC (wf := wM Y q) F hr rfl hlk dX7_slotMay_187 hX
  have b182 : ∀   (v : St), pX7_slotMay_b182  v = some (r, u1) → GW p l e { frames := 2, cells := 0, slots := 0, locals := 46 } s m args below meth c D A 9 0 0 (MQ below (QI D (wM Y q u1) r A) args s 0 0 A) (wM Y q v) 182 [] [] := by
    intro  v hX
    have hX : (some (1, v)) = some (r, u1) := hX
    refine g_iconst (v := 1) F dX7_slotMay_182 (by decide) ?_
    refine g_goto (tgt := 187) F dX7_slotMay_183 (by decide) ?_
    exact g_retC (wf := wM Y q) F hr rfl hlk dX7_slotMay_187 hX
  have b140 : ∀  (x1 : Int32) (x2 : Int32) (x5 : Int32) (x6 : Int32) (x7 : Int32) (y0 : Int32) (v : St), pX7_slotMay_b140  x1 x2 x5 x6 x7 y0 v = some (r, u1) → GW p l e { frames := 2, cells := 0, slots := 0, locals := 46 } s m args below meth c D A 9 0 0 (MQ below (QI D (wM Y q u1) r A) args s 0 0 A) (wM Y q v) 140 [(0, .ref (q 0)), (1, .int x1), (2, .int x2), (5, .int x5), (6, .int x6), (7, .int x7)] [.int y0] := by
    intro  x1 x2 x5 x6 x7 y0 v hX
    have hX : (if x5 = 0 then (pX7_slotMay_b186 v) else (if x6 = 0 then (pX7_slotMay_b186 v) else (if x7 = 0 then (pX7_slotMay_b186 v) else (if y0 = 0 then (pX7_slotMay_b186 v) else (bnd (pX7_isDangerous x1 v) (fun r14 w15 => if r14 = 0 then (pX7_slotMay_b182 w15) else (bnd (pX7_isApart x1 (x2 / 12) w15) (fun r18 w19 => if r18 = 0 then (pX7_slotMay_b186 w19) else (pX7_slotMay_b182 w19))))))))) = some (r, u1) := hX
    refine g_istore (lv' := [(8, .int y0), (0, .ref (q 0)), (1, .int x1), (2, .int x2), (5, .int x5), (6, .int x6), (7, .int x7)]) F dX7_slotMay_140 (by decide) rfl ?_
    refine g_iload F dX7_slotMay_142 4 rfl ?_
    refine g_if_eq (tgt := 186) F dX7_slotMay_144 (by decide) (fun c10 => ?_) (fun c10 => ?_)
    · have hX := if_t hX c10
      refine g_sub [] rfl ?_
      exact b186 v hX
    · have hX := if_f hX c10
      refine g_iload F dX7_slotMay_147 5 rfl ?_
      refine g_if_eq (tgt := 186) F dX7_slotMay_149 (by decide) (fun c11 => ?_) (fun c11 => ?_)
      · have hX := if_t hX c11
        refine g_sub [] rfl ?_
        exact b186 v hX
      · have hX := if_f hX c11
        refine g_iload F dX7_slotMay_152 6 rfl ?_
        refine g_if_eq (tgt := 186) F dX7_slotMay_154 (by decide) (fun c12 => ?_) (fun c12 => ?_)
        · have hX := if_t hX c12
          refine g_sub [] rfl ?_
          exact b186 v hX
        · have hX := if_f hX c12
          refine g_iload F dX7_slotMay_157 0 rfl ?_
          refine g_if_eq (tgt := 186) F dX7_slotMay_159 (by decide) (fun c13 => ?_) (fun c13 => ?_)
          · have hX := if_t hX c13
            refine g_sub [] rfl ?_
            exact b186 v hX
          · have hX := if_f hX c13
            refine g_aload_n F dX7_slotMay_162 1 rfl rfl ?_
            refine g_iload_n F dX7_slotMay_163 2 rfl rfl ?_
            obtain ⟨r14, w15, hc16, hX⟩ := bnd_s hX
            refine callX7_isDangerous F hc16 ml_X7_127 ⟨Nat.le_of_ble_eq_true rfl, Nat.le_of_ble_eq_true rfl⟩ (Nat.le_of_ble_eq_true rfl) dX7_slotMay_164 ?_
            refine g_if_eq (tgt := 182) F dX7_slotMay_167 (by decide) (fun c17 => ?_) (fun c17 => ?_)
            · have hX := if_t hX c17
              refine g_sub [] rfl ?_
              exact b182 w15 hX
            · have hX := if_f hX c17
              refine g_aload_n F dX7_slotMay_170 1 rfl rfl ?_
              refine g_iload_n F dX7_slotMay_171 2 rfl rfl ?_
              refine g_iload_n F dX7_slotMay_172 3 rfl rfl ?_
              refine g_bipush (v := 12) F dX7_slotMay_173 (by decide) ?_
              refine g_idiv F dX7_slotMay_175 (by decide) ?_
              obtain ⟨r18, w19, hc20, hX⟩ := bnd_s hX
              refine callX7_isApart F hc20 ml_X7_130 ⟨Nat.le_of_ble_eq_true rfl, Nat.le_of_ble_eq_true rfl⟩ (Nat.le_of_ble_eq_true rfl) dX7_slotMay_176 ?_
              refine g_if_eq (tgt := 186) F dX7_slotMay_179 (by decide) (fun c21 => ?_) (fun c21 => ?_)
              · have hX := if_t hX c21
                refine g_sub [] rfl ?_
                exact b186 w19 hX
              · have hX := if_f hX c21
                refine g_sub [] rfl ?_
                exact b182 w19 hX
  have b132 : ∀  (x1 : Int32) (x2 : Int32) (x5 : Int32) (x6 : Int32) (x7 : Int32) (y0 : Int32) (y1 : Int32) (v : St), pX7_slotMay_b132  x1 x2 x5 x6 x7 y0 y1 v = some (r, u1) → GW p l e { frames := 2, cells := 0, slots := 0, locals := 46 } s m args below meth c D A 9 0 0 (MQ below (QI D (wM Y q u1) r A) args s 0 0 A) (wM Y q v) 132 [(0, .ref (q 0)), (1, .int x1), (2, .int x2), (5, .int x5), (6, .int x6), (7, .int x7)] [.int y0, .int y1] := by
    intro  x1 x2 x5 x6 x7 y0 y1 v hX
    have hX : (if y1 = y0 then (pX7_slotMay_b140 x1 x2 x5 x6 x7 1 v) else (pX7_slotMay_b140 x1 x2 x5 x6 x7 0 v)) = some (r, u1) := hX
    refine g_icmp_ne (tgt := 139) F dX7_slotMay_132 (by decide) (fun c9 => ?_) (fun c9 => ?_)
    · have hX := if_f hX c9
      refine g_iconst (v := 0) F dX7_slotMay_139 (by decide) ?_
      exact b140 x1 x2 x5 x6 x7 0 v hX
    · have hX := if_t hX c9
      refine g_iconst (v := 1) F dX7_slotMay_135 (by decide) ?_
      refine g_goto (tgt := 140) F dX7_slotMay_136 (by decide) ?_
      exact b140 x1 x2 x5 x6 x7 1 v hX
  have b111 : ∀  (x1 : Int32) (x2 : Int32) (x3 : Int32) (x5 : Int32) (x6 : Int32) (y0 : Int32) (v : St), pX7_slotMay_b111  x1 x2 x3 x5 x6 y0 v = some (r, u1) → GW p l e { frames := 2, cells := 0, slots := 0, locals := 46 } s m args below meth c D A 9 0 0 (MQ below (QI D (wM Y q u1) r A) args s 0 0 A) (wM Y q v) 111 [(0, .ref (q 0)), (1, .int x1), (2, .int x2), (3, .int x3), (5, .int x5), (6, .int x6)] [.int y0] := by
    intro  x1 x2 x3 x5 x6 y0 v hX
    have hX : (if (x2 / 12 < 0 ∨ 6 ≤ (x2 / 12).toNatClampNeg) then none else (if 2 ≤ x3 then (pX7_slotMay_b132 x1 x2 x5 x6 y0 0 (v.1 2 (x2 / 12).toNatClampNeg) v) else (pX7_slotMay_b132 x1 x2 x5 x6 y0 1 (v.1 2 (x2 / 12).toNatClampNeg) v))) = some (r, u1) := hX
    refine g_istore (lv' := [(7, .int y0), (0, .ref (q 0)), (1, .int x1), (2, .int x2), (3, .int x3), (5, .int x5), (6, .int x6)]) F dX7_slotMay_111 (by decide) rfl ?_
    refine g_aload_n F dX7_slotMay_113 1 rfl rfl ?_
    refine G_X7_17 F dX7_slotMay_114 ?_
    refine g_iload_n F dX7_slotMay_117 3 rfl rfl ?_
    refine g_bipush (v := 12) F dX7_slotMay_118 (by decide) ?_
    refine g_idiv F dX7_slotMay_120 (by decide) ?_
    obtain ⟨hI7, hX⟩ := inb hX
    refine AL_2 F hI7 dX7_slotMay_121 ?_
    refine g_iload_n F dX7_slotMay_122 4 rfl rfl ?_
    refine g_iconst (v := 2) F dX7_slotMay_123 (by decide) ?_
    refine g_icmp_ge (tgt := 131) F dX7_slotMay_124 (by decide) (fun c8 => ?_) (fun c8 => ?_)
    · have hX := if_t hX c8
      refine g_iconst (v := 0) F dX7_slotMay_131 (by decide) ?_
      refine g_sub [1, 2, 3, 5, 6, 0] rfl ?_
      exact b132 x1 x2 x5 x6 y0 0 (v.1 2 (x2 / 12).toNatClampNeg) v hX
    · have hX := if_f hX c8
      refine g_iconst (v := 1) F dX7_slotMay_127 (by decide) ?_
      refine g_goto (tgt := 132) F dX7_slotMay_128 (by decide) ?_
      refine g_sub [1, 2, 3, 5, 6, 0] rfl ?_
      exact b132 x1 x2 x5 x6 y0 1 (v.1 2 (x2 / 12).toNatClampNeg) v hX
  have b106 : ∀  (x1 : Int32) (x2 : Int32) (x3 : Int32) (x5 : Int32) (x6 : Int32) (v : St), pX7_slotMay_b106  x1 x2 x3 x5 x6 v = some (r, u1) → GW p l e { frames := 2, cells := 0, slots := 0, locals := 46 } s m args below meth c D A 9 0 0 (MQ below (QI D (wM Y q u1) r A) args s 0 0 A) (wM Y q v) 106 [(0, .ref (q 0)), (1, .int x1), (2, .int x2), (3, .int x3), (5, .int x5), (6, .int x6)] [] := by
    intro  x1 x2 x3 x5 x6 v hX
    have hX : (pX7_slotMay_b111 x1 x2 x3 x5 x6 1 v) = some (r, u1) := hX
    refine g_iconst (v := 1) F dX7_slotMay_106 (by decide) ?_
    refine g_goto (tgt := 111) F dX7_slotMay_107 (by decide) ?_
    exact b111 x1 x2 x3 x5 x6 1 v hX
  have b85 : ∀  (x1 : Int32) (x2 : Int32) (x3 : Int32) (x5 : Int32) (y0 : Int32) (v : St), pX7_slotMay_b85  x1 x2 x3 x5 y0 v = some (r, u1) → GW p l e { frames := 2, cells := 0, slots := 0, locals := 46 } s m args below meth c D A 9 0 0 (MQ below (QI D (wM Y q u1) r A) args s 0 0 A) (wM Y q v) 85 [(0, .ref (q 0)), (1, .int x1), (2, .int x2), (3, .int x3), (5, .int x5)] [.int y0] := by
    intro  x1 x2 x3 x5 y0 v hX
    have hX : (if (x1 < 0 ∨ 60 ≤ x1.toNatClampNeg) then none else (if (v.1 8 x1.toNatClampNeg) = 1 then (if (x2 < 0 ∨ 72 ≤ x2.toNatClampNeg) then none else (if (v.1 1 x2.toNatClampNeg) = 0 then (pX7_slotMay_b111 x1 x2 x3 x5 y0 0 v) else (pX7_slotMay_b106 x1 x2 x3 x5 y0 v))) else (pX7_slotMay_b106 x1 x2 x3 x5 y0 v))) = some (r, u1) := hX
    refine g_istore (lv' := [(6, .int y0), (0, .ref (q 0)), (1, .int x1), (2, .int x2), (3, .int x3), (5, .int x5)]) F dX7_slotMay_85 (by decide) rfl ?_
    refine g_aload_n F dX7_slotMay_87 1 rfl rfl ?_
    refine G_X7_45 F dX7_slotMay_88 ?_
    refine g_iload_n F dX7_slotMay_91 2 rfl rfl ?_
    obtain ⟨hI5, hX⟩ := inb hX
    refine AL_8 F hI5 dX7_slotMay_92 ?_
    refine g_iconst (v := 1) F dX7_slotMay_93 (by decide) ?_
    refine g_icmp_ne (tgt := 106) F dX7_slotMay_94 (by decide) (fun c6 => ?_) (fun c6 => ?_)
    · have hX := if_f hX c6
      refine g_sub [1, 2, 3, 4, 5, 0] rfl ?_
      exact b106 x1 x2 x3 x5 y0 v hX
    · have hX := if_t hX c6
      refine g_aload_n F dX7_slotMay_97 1 rfl rfl ?_
      refine G_X7_13 F dX7_slotMay_98 ?_
      refine g_iload_n F dX7_slotMay_101 3 rfl rfl ?_
      obtain ⟨hI22, hX⟩ := inb hX
      refine AL_1 F hI22 dX7_slotMay_102 ?_
      refine g_if_eq (tgt := 110) F dX7_slotMay_103 (by decide) (fun c23 => ?_) (fun c23 => ?_)
      · have hX := if_t hX c23
        refine g_iconst (v := 0) F dX7_slotMay_110 (by decide) ?_
        refine g_sub [1, 2, 3, 4, 5, 0] rfl ?_
        exact b111 x1 x2 x3 x5 y0 0 v hX
      · have hX := if_f hX c23
        refine g_sub [1, 2, 3, 4, 5, 0] rfl ?_
        exact b106 x1 x2 x3 x5 y0 v hX
  have b80 : ∀  (x1 : Int32) (x2 : Int32) (x3 : Int32) (x5 : Int32) (v : St), pX7_slotMay_b80  x1 x2 x3 x5 v = some (r, u1) → GW p l e { frames := 2, cells := 0, slots := 0, locals := 46 } s m args below meth c D A 9 0 0 (MQ below (QI D (wM Y q u1) r A) args s 0 0 A) (wM Y q v) 80 [(0, .ref (q 0)), (1, .int x1), (2, .int x2), (3, .int x3), (5, .int x5)] [] := by
    intro  x1 x2 x3 x5 v hX
    have hX : (pX7_slotMay_b85 x1 x2 x3 x5 1 v) = some (r, u1) := hX
    refine g_iconst (v := 1) F dX7_slotMay_80 (by decide) ?_
    refine g_goto (tgt := 85) F dX7_slotMay_81 (by decide) ?_
    exact b85 x1 x2 x3 x5 1 v hX
  have b84 : ∀  (x1 : Int32) (x2 : Int32) (x3 : Int32) (x5 : Int32) (v : St), pX7_slotMay_b84  x1 x2 x3 x5 v = some (r, u1) → GW p l e { frames := 2, cells := 0, slots := 0, locals := 46 } s m args below meth c D A 9 0 0 (MQ below (QI D (wM Y q u1) r A) args s 0 0 A) (wM Y q v) 84 [(0, .ref (q 0)), (1, .int x1), (2, .int x2), (3, .int x3), (5, .int x5)] [] := by
    intro  x1 x2 x3 x5 v hX
    have hX : (pX7_slotMay_b85 x1 x2 x3 x5 0 v) = some (r, u1) := hX
    refine g_iconst (v := 0) F dX7_slotMay_84 (by decide) ?_
    exact b85 x1 x2 x3 x5 0 v hX
  have b50 : ∀  (x1 : Int32) (x2 : Int32) (x3 : Int32) (x4 : Int32) (y0 : Int32) (v : St), pX7_slotMay_b50  x1 x2 x3 x4 y0 v = some (r, u1) → GW p l e { frames := 2, cells := 0, slots := 0, locals := 46 } s m args below meth c D A 9 0 0 (MQ below (QI D (wM Y q u1) r A) args s 0 0 A) (wM Y q v) 50 [(0, .ref (q 0)), (1, .int x1), (2, .int x2), (3, .int x3), (4, .int x4)] [.int y0] := by
    intro  x1 x2 x3 x4 y0 v hX
    have hX : (if (x3 - x3 / 2 * 2) = 0 then (pX7_slotMay_b80 x1 x2 x3 y0 v) else (if x4 = ((-1)) then (pX7_slotMay_b84 x1 x2 x3 y0 v) else (if x4 = x1 then (pX7_slotMay_b84 x1 x2 x3 y0 v) else (bnd (pX7_fits x1 x4 v) (fun r26 w27 => if r26 = 0 then (pX7_slotMay_b84 x1 x2 x3 y0 w27) else (pX7_slotMay_b80 x1 x2 x3 y0 w27)))))) = some (r, u1) := hX
    refine g_istore (lv' := [(5, .int y0), (0, .ref (q 0)), (1, .int x1), (2, .int x2), (3, .int x3), (4, .int x4)]) F dX7_slotMay_50 (by decide) rfl ?_
    refine g_iload_n F dX7_slotMay_52 4 rfl rfl ?_
    refine g_iconst (v := 2) F dX7_slotMay_53 (by decide) ?_
    refine g_irem F dX7_slotMay_54 (by decide) ?_
    refine g_if_eq (tgt := 80) F dX7_slotMay_55 (by decide) (fun c4 => ?_) (fun c4 => ?_)
    · have hX := if_t hX c4
      refine g_sub [1, 2, 3, 4, 0] rfl ?_
      exact b80 x1 x2 x3 y0 v hX
    · have hX := if_f hX c4
      refine g_iload F dX7_slotMay_58 5 rfl ?_
      refine g_iconst (v := (-1)) F dX7_slotMay_60 (by decide) ?_
      refine g_icmp_eq (tgt := 84) F dX7_slotMay_61 (by decide) (fun c24 => ?_) (fun c24 => ?_)
      · have hX := if_t hX c24
        refine g_sub [1, 2, 3, 4, 0] rfl ?_
        exact b84 x1 x2 x3 y0 v hX
      · have hX := if_f hX c24
        refine g_iload F dX7_slotMay_64 5 rfl ?_
        refine g_iload_n F dX7_slotMay_66 2 rfl rfl ?_
        refine g_icmp_eq (tgt := 84) F dX7_slotMay_67 (by decide) (fun c25 => ?_) (fun c25 => ?_)
        · have hX := if_t hX c25
          refine g_sub [1, 2, 3, 4, 0] rfl ?_
          exact b84 x1 x2 x3 y0 v hX
        · have hX := if_f hX c25
          refine g_aload_n F dX7_slotMay_70 1 rfl rfl ?_
          refine g_iload_n F dX7_slotMay_71 2 rfl rfl ?_
          refine g_iload F dX7_slotMay_72 5 rfl ?_
          obtain ⟨r26, w27, hc28, hX⟩ := bnd_s hX
          refine callX7_fits F hc28 ml_X7_123 ⟨Nat.le_of_ble_eq_true rfl, Nat.le_of_ble_eq_true rfl⟩ (Nat.le_of_ble_eq_true rfl) dX7_slotMay_74 ?_
          refine g_if_eq (tgt := 84) F dX7_slotMay_77 (by decide) (fun c29 => ?_) (fun c29 => ?_)
          · have hX := if_t hX c29
            refine g_sub [1, 2, 3, 4, 0] rfl ?_
            exact b84 x1 x2 x3 y0 w27 hX
          · have hX := if_f hX c29
            refine g_sub [1, 2, 3, 4, 0] rfl ?_
            exact b80 x1 x2 x3 y0 w27 hX
  have b45 : ∀  (x1 : Int32) (x2 : Int32) (x3 : Int32) (x4 : Int32) (v : St), pX7_slotMay_b45  x1 x2 x3 x4 v = some (r, u1) → GW p l e { frames := 2, cells := 0, slots := 0, locals := 46 } s m args below meth c D A 9 0 0 (MQ below (QI D (wM Y q u1) r A) args s 0 0 A) (wM Y q v) 45 [(0, .ref (q 0)), (1, .int x1), (2, .int x2), (3, .int x3), (4, .int x4)] [] := by
    intro  x1 x2 x3 x4 v hX
    have hX : (pX7_slotMay_b50 x1 x2 x3 x4 1 v) = some (r, u1) := hX
    refine g_iconst (v := 1) F dX7_slotMay_45 (by decide) ?_
    refine g_goto (tgt := 50) F dX7_slotMay_46 (by decide) ?_
    exact b50 x1 x2 x3 x4 1 v hX
  have b23 : ∀  (x1 : Int32) (x2 : Int32) (x3 : Int32) (y0 : Int32) (v : St), pX7_slotMay_b23  x1 x2 x3 y0 v = some (r, u1) → GW p l e { frames := 2, cells := 0, slots := 0, locals := 46 } s m args below meth c D A 9 0 0 (MQ below (QI D (wM Y q u1) r A) args s 0 0 A) (wM Y q v) 23 [(0, .ref (q 0)), (1, .int x1), (2, .int x2), (3, .int x3)] [.int y0] := by
    intro  x1 x2 x3 y0 v hX
    have hX : (if (x2 < 0 ∨ 72 ≤ x2.toNatClampNeg) then none else (if (v.1 0 x2.toNatClampNeg) = ((-1)) then (pX7_slotMay_b45 x1 x2 x3 y0 v) else (if (x2 < 0 ∨ 72 ≤ x2.toNatClampNeg) then none else (if (v.1 0 x2.toNatClampNeg) = x1 then (pX7_slotMay_b45 x1 x2 x3 y0 v) else (pX7_slotMay_b50 x1 x2 x3 y0 0 v))))) = some (r, u1) := hX
    refine g_istore (lv' := [(4, .int y0), (0, .ref (q 0)), (1, .int x1), (2, .int x2), (3, .int x3)]) F dX7_slotMay_23 (by decide) rfl ?_
    refine g_aload_n F dX7_slotMay_25 1 rfl rfl ?_
    refine G_X7_7 F dX7_slotMay_26 ?_
    refine g_iload_n F dX7_slotMay_29 3 rfl rfl ?_
    obtain ⟨hI2, hX⟩ := inb hX
    refine AL_0 F hI2 dX7_slotMay_30 ?_
    refine g_iconst (v := (-1)) F dX7_slotMay_31 (by decide) ?_
    refine g_icmp_eq (tgt := 45) F dX7_slotMay_32 (by decide) (fun c3 => ?_) (fun c3 => ?_)
    · have hX := if_t hX c3
      refine g_sub [1, 2, 3, 4, 0] rfl ?_
      exact b45 x1 x2 x3 y0 v hX
    · have hX := if_f hX c3
      refine g_aload_n F dX7_slotMay_35 1 rfl rfl ?_
      refine G_X7_7 F dX7_slotMay_36 ?_
      refine g_iload_n F dX7_slotMay_39 3 rfl rfl ?_
      obtain ⟨hI30, hX⟩ := inb hX
      refine AL_0 F hI30 dX7_slotMay_40 ?_
      refine g_iload_n F dX7_slotMay_41 2 rfl rfl ?_
      refine g_icmp_ne (tgt := 49) F dX7_slotMay_42 (by decide) (fun c31 => ?_) (fun c31 => ?_)
      · have hX := if_f hX c31
        refine g_iconst (v := 0) F dX7_slotMay_49 (by decide) ?_
        refine g_sub [1, 2, 3, 4, 0] rfl ?_
        exact b50 x1 x2 x3 y0 0 v hX
      · have hX := if_t hX c31
        refine g_sub [1, 2, 3, 4, 0] rfl ?_
        exact b45 x1 x2 x3 y0 v hX
  have hX : (if ((a2 - a2 / 4 * 4) - (a2 - a2 / 4 * 4) / 2 * 2) = 1 then (if (a2 - 1 < 0 ∨ 72 ≤ (a2 - 1).toNatClampNeg) then none else (pX7_slotMay_b23 a1 a2 (a2 - a2 / 4 * 4) (u.1 0 (a2 - 1).toNatClampNeg) u)) else (pX7_slotMay_b23 a1 a2 (a2 - a2 / 4 * 4) ((-1)) u)) = some (r, u1) := hX
  refine g_iload_n F dX7_slotMay_0 2 rfl rfl ?_
  refine g_iconst (v := 4) F dX7_slotMay_1 (by decide) ?_
  refine g_irem F dX7_slotMay_2 (by decide) ?_
  refine g_istore_n (lv' := [(3, .int (a2 - a2 / 4 * 4)), (0, .ref (q 0)), (1, .int a1), (2, .int a2)]) F dX7_slotMay_3 rfl (by decide) rfl ?_
  refine g_iload_n F dX7_slotMay_4 0 rfl rfl ?_
  refine g_iconst (v := 2) F dX7_slotMay_5 (by decide) ?_
  refine g_irem F dX7_slotMay_6 (by decide) ?_
  refine g_iconst (v := 1) F dX7_slotMay_7 (by decide) ?_
  refine g_icmp_ne (tgt := 22) F dX7_slotMay_8 (by decide) (fun c1 => ?_) (fun c1 => ?_)
  · have hX := if_f hX c1
    refine g_iconst (v := (-1)) F dX7_slotMay_22 (by decide) ?_
    refine g_sub [1, 2, 3, 0] rfl ?_
    exact b23 a1 a2 (a2 - a2 / 4 * 4) ((-1)) u hX
  · have hX := if_t hX c1
    refine g_aload_n F dX7_slotMay_11 1 rfl rfl ?_
    refine G_X7_7 F dX7_slotMay_12 ?_
    refine g_iload_n F dX7_slotMay_15 3 rfl rfl ?_
    refine g_iconst (v := 1) F dX7_slotMay_16 (by decide) ?_
    refine g_isub F dX7_slotMay_17 ?_
    obtain ⟨hI32, hX⟩ := inb hX
    refine AL_0 F hI32 dX7_slotMay_18 ?_
    refine g_goto (tgt := 23) F dX7_slotMay_19 (by decide) ?_
    refine g_sub [1, 2, 3, 0] rfl ?_
    exact b23 a1 a2 (a2 - a2 / 4 * 4) (u.1 0 (a2 - 1).toNatClampNeg) u hX
theorem callX7_slotMay {p : Program} {l : Launch} {e : Env} {R : Room} {s : State} {m : MethodId} {args : Array Value} {below : List Frame} {meth : Method} {c : Code} {D : va_G} {Y : Nat → ClassId} {A : Nat → Prop} {cc : ByteArray} {nL : Nat} {own : String} {Q : State → Prop} {pc : Nat} {lv : List (Nat × Value)} {rest : List Value} {q : Nat → Nat} {a1 a2 : Int32} {u u1 : St} {r : Int32} (F : Fx p s m args c D Y A cc nL own) (hX : pX7_slotMay a1 a2 u = some (r, u1)) {index : Nat} (hml : Cond.methodLink own index yX7_slotMay ∈ TBL) (hR : 2 + 1 ≤ R.frames ∧ 8 + (9 + 11) + 46 ≤ R.locals) (hcat : (rest.map fun v => v.category).sum ≤ 8) (hd : decode cc pc = .ok (.invokevirtual index, 3)) (kk : GW p l e R s m args below meth c D A nL 0 0 Q (wM Y q u1) (pc + 3) lv (.int r :: rest)) : GW p l e R s m args below meth c D A nL 0 0 Q (wM Y q u) pc lv (.int a2 :: .int a1 :: .ref (q 0) :: rest) := g_callVi (ws := wM Y q u) (n := 2) (q0 := 0) (As := [.int a1, .int a2]) F [] [] (kX7_slotMay hX) (List.append_nil _).symm (List.append_nil _) (by unfold mOK; decide +kernel) rfl rfl cd_yX7_slotMay hml im_yX7_slotMay se_yX7_slotMay in_X7 rfl rfl hR ⟨Nat.zero_le _, Nat.zero_le _⟩ rfl hcat hd kk
theorem dX7_canTake_0 : decode cX7_canTake 0 = .ok (.aload_n 0, 1) := by decide +kernel
theorem dX7_canTake_1 : decode cX7_canTake 1 = .ok (.getfield 54, 3) := by decide +kernel
theorem dX7_canTake_4 : decode cX7_canTake 4 = .ok (.iload_n 1, 1) := by decide +kernel
theorem dX7_canTake_5 : decode cX7_canTake 5 = .ok (.iaload, 1) := by decide +kernel
theorem dX7_canTake_6 : decode cX7_canTake 6 = .ok (.istore_n 2, 1) := by decide +kernel
theorem dX7_canTake_7 : decode cX7_canTake 7 = .ok (.iload_n 2, 1) := by decide +kernel
theorem dX7_canTake_8 : decode cX7_canTake 8 = .ok (.iconst 2, 1) := by decide +kernel
theorem dX7_canTake_9 : decode cX7_canTake 9 = .ok (.irem, 1) := by decide +kernel
theorem dX7_canTake_10 : decode cX7_canTake 10 = .ok (.iconst 1, 1) := by decide +kernel
theorem dX7_canTake_11 : decode cX7_canTake 11 = .ok (.if_icmp .eq 15, 3) := by decide +kernel
theorem dX7_canTake_14 : decode cX7_canTake 14 = .ok (.aload_n 0, 1) := by decide +kernel
theorem dX7_canTake_15 : decode cX7_canTake 15 = .ok (.getfield 7, 3) := by decide +kernel
theorem dX7_canTake_18 : decode cX7_canTake 18 = .ok (.iload_n 2, 1) := by decide +kernel
theorem dX7_canTake_19 : decode cX7_canTake 19 = .ok (.iconst 1, 1) := by decide +kernel
theorem dX7_canTake_20 : decode cX7_canTake 20 = .ok (.iadd, 1) := by decide +kernel
theorem dX7_canTake_21 : decode cX7_canTake 21 = .ok (.iaload, 1) := by decide +kernel
theorem dX7_canTake_22 : decode cX7_canTake 22 = .ok (.iconst (-1), 1) := by decide +kernel
theorem dX7_canTake_23 : decode cX7_canTake 23 = .ok (.if_icmp .ne 7, 3) := by decide +kernel
theorem dX7_canTake_26 : decode cX7_canTake 26 = .ok (.iconst 1, 1) := by decide +kernel
theorem dX7_canTake_27 : decode cX7_canTake 27 = .ok (.goto 4, 3) := by decide +kernel
theorem dX7_canTake_30 : decode cX7_canTake 30 = .ok (.iconst 0, 1) := by decide +kernel
theorem dX7_canTake_31 : decode cX7_canTake 31 = .ok (.istore_n 3, 1) := by decide +kernel
theorem dX7_canTake_32 : decode cX7_canTake 32 = .ok (.iload_n 3, 1) := by decide +kernel
theorem dX7_canTake_33 : decode cX7_canTake 33 = .ok (.ifCond .eq 26, 3) := by decide +kernel
theorem dX7_canTake_36 : decode cX7_canTake 36 = .ok (.iload_n 2, 1) := by decide +kernel
theorem dX7_canTake_37 : decode cX7_canTake 37 = .ok (.iconst 4, 1) := by decide +kernel
theorem dX7_canTake_38 : decode cX7_canTake 38 = .ok (.irem, 1) := by decide +kernel
theorem dX7_canTake_39 : decode cX7_canTake 39 = .ok (.iconst 1, 1) := by decide +kernel
theorem dX7_canTake_40 : decode cX7_canTake 40 = .ok (.if_icmp .gt 15, 3) := by decide +kernel
theorem dX7_canTake_43 : decode cX7_canTake 43 = .ok (.aload_n 0, 1) := by decide +kernel
theorem dX7_canTake_44 : decode cX7_canTake 44 = .ok (.getfield 17, 3) := by decide +kernel
theorem dX7_canTake_47 : decode cX7_canTake 47 = .ok (.iload_n 2, 1) := by decide +kernel
theorem dX7_canTake_48 : decode cX7_canTake 48 = .ok (.bipush 12, 2) := by decide +kernel
theorem dX7_canTake_50 : decode cX7_canTake 50 = .ok (.idiv, 1) := by decide +kernel
theorem dX7_canTake_51 : decode cX7_canTake 51 = .ok (.baload, 1) := by decide +kernel
theorem dX7_canTake_52 : decode cX7_canTake 52 = .ok (.ifCond .eq 7, 3) := by decide +kernel
theorem dX7_canTake_55 : decode cX7_canTake 55 = .ok (.iconst 1, 1) := by decide +kernel
theorem dX7_canTake_56 : decode cX7_canTake 56 = .ok (.goto 4, 3) := by decide +kernel
theorem dX7_canTake_59 : decode cX7_canTake 59 = .ok (.iconst 0, 1) := by decide +kernel
theorem dX7_canTake_60 : decode cX7_canTake 60 = .ok (.ireturn, 1) := by decide +kernel
def pX7_canTake_b59   (v : St) : Option (Int32 × St) := some (0, v)
def pX7_canTake_b55   (v : St) : Option (Int32 × St) := some (1, v)
def pX7_canTake_b31  (x2 : Int32) (y0 : Int32) (v : St) : Option (Int32 × St) := if y0 = 0 then (pX7_canTake_b59 v) else (if 1 < (x2 - x2 / 4 * 4) then (pX7_canTake_b55 v) else (if (x2 / 12 < 0 ∨ 6 ≤ (x2 / 12).toNatClampNeg) then none else (if (v.1 2 (x2 / 12).toNatClampNeg) = 0 then (pX7_canTake_b59 v) else (pX7_canTake_b55 v))))
def pX7_canTake_b26  (x2 : Int32) (v : St) : Option (Int32 × St) := pX7_canTake_b31 x2 1 v
def pX7_canTake (a1 : Int32) (u : St) : Option (Int32 × St) := if (a1 < 0 ∨ 60 ≤ a1.toNatClampNeg) then none else (if ((u.1 11 a1.toNatClampNeg) - (u.1 11 a1.toNatClampNeg) / 2 * 2) = 1 then (pX7_canTake_b26 (u.1 11 a1.toNatClampNeg) u) else (if ((u.1 11 a1.toNatClampNeg) + 1 < 0 ∨ 72 ≤ ((u.1 11 a1.toNatClampNeg) + 1).toNatClampNeg) then none else (if (u.1 0 ((u.1 11 a1.toNatClampNeg) + 1).toNatClampNeg) = ((-1)) then (pX7_canTake_b26 (u.1 11 a1.toNatClampNeg) u) else (pX7_canTake_b31 (u.1 11 a1.toNatClampNeg) 0 u))))
set_option maxHeartbeats 4000000 in
set_option maxRecDepth 20000 in
theorem kX7_canTake {l : Launch} {D : va_G} {Y : Nat → ClassId} {q : Nat → Nat} {a1 : Int32} {u u1 : St} {r : Int32} (hX : pX7_canTake a1 u = some (r, u1)) : CMi l yX7_canTake cX7_canTake 4 (some .boolean) 0 0 D Y (wM Y q u) (wM Y q u1) [.ref (q 0), .int a1] r := by
  refine cm_ofi (by decide) (Nat.le_of_ble_eq_true rfl) rfl (fun p e s m args below meth c A F hr hlk => ?_)
  show GW p l e { frames := 0, cells := 0, slots := 0, locals := 0 } s m args below meth c D A 4 0 0 (MQ below (QI D (wM Y q u1) r A) args s 0 0 A) (wM Y q u) 0 [(0, .ref (q 0)), (1, .int a1)] []
  have b59 : ∀   (v : St), pX7_canTake_b59  v = some (r, u1) → GW p l e { frames := 0, cells := 0, slots := 0, locals := 0 } s m args below meth c D A 4 0 0 (MQ below (QI D (wM Y q u1) r A) args s 0 0 A) (wM Y q v) 59 [] [] := by
    intro  v hX
    have hX : (some (0, v)) = some (r, u1) := hX
    refine g_iconst (v := 0) F dX7_canTake_59 (by decide) ?_
    exact g_retC (wf := wM Y q) F hr rfl hlk dX7_canTake_60 hX
  have b55 : ∀   (v : St), pX7_canTake_b55  v = some (r, u1) → GW p l e { frames := 0, cells := 0, slots := 0, locals := 0 } s m args below meth c D A 4 0 0 (MQ below (QI D (wM Y q u1) r A) args s 0 0 A) (wM Y q v) 55 [] [] := by
    intro  v hX
    have hX : (some (1, v)) = some (r, u1) := hX
    refine g_iconst (v := 1) F dX7_canTake_55 (by decide) ?_
    refine g_goto (tgt := 60) F dX7_canTake_56 (by decide) ?_
    exact g_retC (wf := wM Y q) F hr rfl hlk dX7_canTake_60 hX
  have b31 : ∀  (x2 : Int32) (y0 : Int32) (v : St), pX7_canTake_b31  x2 y0 v = some (r, u1) → GW p l e { frames := 0, cells := 0, slots := 0, locals := 0 } s m args below meth c D A 4 0 0 (MQ below (QI D (wM Y q u1) r A) args s 0 0 A) (wM Y q v) 31 [(0, .ref (q 0)), (2, .int x2)] [.int y0] := by
    intro  x2 y0 v hX
    have hX : (if y0 = 0 then (pX7_canTake_b59 v) else (if 1 < (x2 - x2 / 4 * 4) then (pX7_canTake_b55 v) else (if (x2 / 12 < 0 ∨ 6 ≤ (x2 / 12).toNatClampNeg) then none else (if (v.1 2 (x2 / 12).toNatClampNeg) = 0 then (pX7_canTake_b59 v) else (pX7_canTake_b55 v))))) = some (r, u1) := hX
    refine g_istore_n (lv' := [(3, .int y0), (0, .ref (q 0)), (2, .int x2)]) F dX7_canTake_31 rfl (by decide) rfl ?_
    refine g_iload_n F dX7_canTake_32 0 rfl rfl ?_
    refine g_if_eq (tgt := 59) F dX7_canTake_33 (by decide) (fun c3 => ?_) (fun c3 => ?_)
    · have hX := if_t hX c3
      refine g_sub [] rfl ?_
      exact b59 v hX
    · have hX := if_f hX c3
      refine g_iload_n F dX7_canTake_36 2 rfl rfl ?_
      refine g_iconst (v := 4) F dX7_canTake_37 (by decide) ?_
      refine g_irem F dX7_canTake_38 (by decide) ?_
      refine g_iconst (v := 1) F dX7_canTake_39 (by decide) ?_
      refine g_icmp_gt (tgt := 55) F dX7_canTake_40 (by decide) (fun c4 => ?_) (fun c4 => ?_)
      · have hX := if_t hX c4
        refine g_sub [] rfl ?_
        exact b55 v hX
      · have hX := if_f hX c4
        refine g_aload_n F dX7_canTake_43 1 rfl rfl ?_
        refine G_X7_17 F dX7_canTake_44 ?_
        refine g_iload_n F dX7_canTake_47 2 rfl rfl ?_
        refine g_bipush (v := 12) F dX7_canTake_48 (by decide) ?_
        refine g_idiv F dX7_canTake_50 (by decide) ?_
        obtain ⟨hI5, hX⟩ := inb hX
        refine AL_2 F hI5 dX7_canTake_51 ?_
        refine g_if_eq (tgt := 59) F dX7_canTake_52 (by decide) (fun c6 => ?_) (fun c6 => ?_)
        · have hX := if_t hX c6
          refine g_sub [] rfl ?_
          exact b59 v hX
        · have hX := if_f hX c6
          refine g_sub [] rfl ?_
          exact b55 v hX
  have b26 : ∀  (x2 : Int32) (v : St), pX7_canTake_b26  x2 v = some (r, u1) → GW p l e { frames := 0, cells := 0, slots := 0, locals := 0 } s m args below meth c D A 4 0 0 (MQ below (QI D (wM Y q u1) r A) args s 0 0 A) (wM Y q v) 26 [(0, .ref (q 0)), (2, .int x2)] [] := by
    intro  x2 v hX
    have hX : (pX7_canTake_b31 x2 1 v) = some (r, u1) := hX
    refine g_iconst (v := 1) F dX7_canTake_26 (by decide) ?_
    refine g_goto (tgt := 31) F dX7_canTake_27 (by decide) ?_
    exact b31 x2 1 v hX
  have hX : (if (a1 < 0 ∨ 60 ≤ a1.toNatClampNeg) then none else (if ((u.1 11 a1.toNatClampNeg) - (u.1 11 a1.toNatClampNeg) / 2 * 2) = 1 then (pX7_canTake_b26 (u.1 11 a1.toNatClampNeg) u) else (if ((u.1 11 a1.toNatClampNeg) + 1 < 0 ∨ 72 ≤ ((u.1 11 a1.toNatClampNeg) + 1).toNatClampNeg) then none else (if (u.1 0 ((u.1 11 a1.toNatClampNeg) + 1).toNatClampNeg) = ((-1)) then (pX7_canTake_b26 (u.1 11 a1.toNatClampNeg) u) else (pX7_canTake_b31 (u.1 11 a1.toNatClampNeg) 0 u))))) = some (r, u1) := hX
  refine g_aload_n F dX7_canTake_0 0 rfl rfl ?_
  refine G_X7_54 F dX7_canTake_1 ?_
  refine g_iload_n F dX7_canTake_4 1 rfl rfl ?_
  obtain ⟨hI1, hX⟩ := inb hX
  refine AL_11 F hI1 dX7_canTake_5 ?_
  refine g_istore_n (lv' := [(2, .int (u.1 11 a1.toNatClampNeg)), (0, .ref (q 0)), (1, .int a1)]) F dX7_canTake_6 rfl (by decide) rfl ?_
  refine g_iload_n F dX7_canTake_7 0 rfl rfl ?_
  refine g_iconst (v := 2) F dX7_canTake_8 (by decide) ?_
  refine g_irem F dX7_canTake_9 (by decide) ?_
  refine g_iconst (v := 1) F dX7_canTake_10 (by decide) ?_
  refine g_icmp_eq (tgt := 26) F dX7_canTake_11 (by decide) (fun c2 => ?_) (fun c2 => ?_)
  · have hX := if_t hX c2
    refine g_sub [1, 0] rfl ?_
    exact b26 (u.1 11 a1.toNatClampNeg) u hX
  · have hX := if_f hX c2
    refine g_aload_n F dX7_canTake_14 1 rfl rfl ?_
    refine G_X7_7 F dX7_canTake_15 ?_
    refine g_iload_n F dX7_canTake_18 0 rfl rfl ?_
    refine g_iconst (v := 1) F dX7_canTake_19 (by decide) ?_
    refine g_iadd F dX7_canTake_20 ?_
    obtain ⟨hI7, hX⟩ := inb hX
    refine AL_0 F hI7 dX7_canTake_21 ?_
    refine g_iconst (v := (-1)) F dX7_canTake_22 (by decide) ?_
    refine g_icmp_ne (tgt := 30) F dX7_canTake_23 (by decide) (fun c8 => ?_) (fun c8 => ?_)
    · have hX := if_f hX c8
      refine g_iconst (v := 0) F dX7_canTake_30 (by decide) ?_
      refine g_sub [1, 0] rfl ?_
      exact b31 (u.1 11 a1.toNatClampNeg) 0 u hX
    · have hX := if_t hX c8
      refine g_sub [1, 0] rfl ?_
      exact b26 (u.1 11 a1.toNatClampNeg) u hX
theorem callX7_canTake {p : Program} {l : Launch} {e : Env} {R : Room} {s : State} {m : MethodId} {args : Array Value} {below : List Frame} {meth : Method} {c : Code} {D : va_G} {Y : Nat → ClassId} {A : Nat → Prop} {cc : ByteArray} {nL : Nat} {own : String} {Q : State → Prop} {pc : Nat} {lv : List (Nat × Value)} {rest : List Value} {q : Nat → Nat} {a1 : Int32} {u u1 : St} {r : Int32} (F : Fx p s m args c D Y A cc nL own) (hX : pX7_canTake a1 u = some (r, u1)) {index : Nat} (hml : Cond.methodLink own index yX7_canTake ∈ TBL) (hR : 0 + 1 ≤ R.frames ∧ 8 + (4 + 11) + 0 ≤ R.locals) (hcat : (rest.map fun v => v.category).sum ≤ 8) (hd : decode cc pc = .ok (.invokevirtual index, 3)) (kk : GW p l e R s m args below meth c D A nL 0 0 Q (wM Y q u1) (pc + 3) lv (.int r :: rest)) : GW p l e R s m args below meth c D A nL 0 0 Q (wM Y q u) pc lv (.int a1 :: .ref (q 0) :: rest) := g_callVi (ws := wM Y q u) (n := 1) (q0 := 0) (As := [.int a1]) F [] [] (kX7_canTake hX) (List.append_nil _).symm (List.append_nil _) (by unfold mOK; decide +kernel) rfl rfl cd_yX7_canTake hml im_yX7_canTake se_yX7_canTake in_X7 rfl rfl hR ⟨Nat.zero_le _, Nat.zero_le _⟩ rfl hcat hd kk
theorem dX7_isOnTop_0 : decode cX7_isOnTop 0 = .ok (.aload_n 0, 1) := by decide +kernel
theorem dX7_isOnTop_1 : decode cX7_isOnTop 1 = .ok (.getfield 51, 3) := by decide +kernel
theorem dX7_isOnTop_4 : decode cX7_isOnTop 4 = .ok (.iload_n 1, 1) := by decide +kernel
theorem dX7_isOnTop_5 : decode cX7_isOnTop 5 = .ok (.iaload, 1) := by decide +kernel
theorem dX7_isOnTop_6 : decode cX7_isOnTop 6 = .ok (.ifCond .ne 38, 3) := by decide +kernel
theorem dX7_isOnTop_9 : decode cX7_isOnTop 9 = .ok (.aload_n 0, 1) := by decide +kernel
theorem dX7_isOnTop_10 : decode cX7_isOnTop 10 = .ok (.getfield 60, 3) := by decide +kernel
theorem dX7_isOnTop_13 : decode cX7_isOnTop 13 = .ok (.iconst 4, 1) := by decide +kernel
theorem dX7_isOnTop_14 : decode cX7_isOnTop 14 = .ok (.aload_n 0, 1) := by decide +kernel
theorem dX7_isOnTop_15 : decode cX7_isOnTop 15 = .ok (.getfield 54, 3) := by decide +kernel
theorem dX7_isOnTop_18 : decode cX7_isOnTop 18 = .ok (.iload_n 1, 1) := by decide +kernel
theorem dX7_isOnTop_19 : decode cX7_isOnTop 19 = .ok (.iaload, 1) := by decide +kernel
theorem dX7_isOnTop_20 : decode cX7_isOnTop 20 = .ok (.imul, 1) := by decide +kernel
theorem dX7_isOnTop_21 : decode cX7_isOnTop 21 = .ok (.aload_n 0, 1) := by decide +kernel
theorem dX7_isOnTop_22 : decode cX7_isOnTop 22 = .ok (.getfield 57, 3) := by decide +kernel
theorem dX7_isOnTop_25 : decode cX7_isOnTop 25 = .ok (.aload_n 0, 1) := by decide +kernel
theorem dX7_isOnTop_26 : decode cX7_isOnTop 26 = .ok (.getfield 54, 3) := by decide +kernel
theorem dX7_isOnTop_29 : decode cX7_isOnTop 29 = .ok (.iload_n 1, 1) := by decide +kernel
theorem dX7_isOnTop_30 : decode cX7_isOnTop 30 = .ok (.iaload, 1) := by decide +kernel
theorem dX7_isOnTop_31 : decode cX7_isOnTop 31 = .ok (.iaload, 1) := by decide +kernel
theorem dX7_isOnTop_32 : decode cX7_isOnTop 32 = .ok (.iadd, 1) := by decide +kernel
theorem dX7_isOnTop_33 : decode cX7_isOnTop 33 = .ok (.iconst 1, 1) := by decide +kernel
theorem dX7_isOnTop_34 : decode cX7_isOnTop 34 = .ok (.isub, 1) := by decide +kernel
theorem dX7_isOnTop_35 : decode cX7_isOnTop 35 = .ok (.iaload, 1) := by decide +kernel
theorem dX7_isOnTop_36 : decode cX7_isOnTop 36 = .ok (.iload_n 1, 1) := by decide +kernel
theorem dX7_isOnTop_37 : decode cX7_isOnTop 37 = .ok (.if_icmp .ne 7, 3) := by decide +kernel
theorem dX7_isOnTop_40 : decode cX7_isOnTop 40 = .ok (.iconst 1, 1) := by decide +kernel
theorem dX7_isOnTop_41 : decode cX7_isOnTop 41 = .ok (.goto 4, 3) := by decide +kernel
theorem dX7_isOnTop_44 : decode cX7_isOnTop 44 = .ok (.iconst 0, 1) := by decide +kernel
theorem dX7_isOnTop_45 : decode cX7_isOnTop 45 = .ok (.ireturn, 1) := by decide +kernel
def pX7_isOnTop_b44   (v : St) : Option (Int32 × St) := some (0, v)
def pX7_isOnTop (a1 : Int32) (u : St) : Option (Int32 × St) := if (a1 < 0 ∨ 60 ≤ a1.toNatClampNeg) then none else (if (u.1 10 a1.toNatClampNeg) = 0 then (if (a1 < 0 ∨ 60 ≤ a1.toNatClampNeg) then none else (if (a1 < 0 ∨ 60 ≤ a1.toNatClampNeg) then none else (if (u.1 11 a1.toNatClampNeg < 0 ∨ 10 ≤ (u.1 11 a1.toNatClampNeg).toNatClampNeg) then none else (if (((4 * (u.1 11 a1.toNatClampNeg)) + (u.1 12 (u.1 11 a1.toNatClampNeg).toNatClampNeg)) - 1 < 0 ∨ 40 ≤ (((4 * (u.1 11 a1.toNatClampNeg)) + (u.1 12 (u.1 11 a1.toNatClampNeg).toNatClampNeg)) - 1).toNatClampNeg) then none else (if (u.1 13 (((4 * (u.1 11 a1.toNatClampNeg)) + (u.1 12 (u.1 11 a1.toNatClampNeg).toNatClampNeg)) - 1).toNatClampNeg) = a1 then (some (1, u)) else (pX7_isOnTop_b44 u)))))) else (pX7_isOnTop_b44 u))
set_option maxHeartbeats 4000000 in
set_option maxRecDepth 20000 in
theorem kX7_isOnTop {l : Launch} {D : va_G} {Y : Nat → ClassId} {q : Nat → Nat} {a1 : Int32} {u u1 : St} {r : Int32} (hX : pX7_isOnTop a1 u = some (r, u1)) : CMi l yX7_isOnTop cX7_isOnTop 2 (some .boolean) 0 0 D Y (wM Y q u) (wM Y q u1) [.ref (q 0), .int a1] r := by
  refine cm_ofi (by decide) (Nat.le_of_ble_eq_true rfl) rfl (fun p e s m args below meth c A F hr hlk => ?_)
  show GW p l e { frames := 0, cells := 0, slots := 0, locals := 0 } s m args below meth c D A 2 0 0 (MQ below (QI D (wM Y q u1) r A) args s 0 0 A) (wM Y q u) 0 [(0, .ref (q 0)), (1, .int a1)] []
  have b44 : ∀   (v : St), pX7_isOnTop_b44  v = some (r, u1) → GW p l e { frames := 0, cells := 0, slots := 0, locals := 0 } s m args below meth c D A 2 0 0 (MQ below (QI D (wM Y q u1) r A) args s 0 0 A) (wM Y q v) 44 [] [] := by
    intro  v hX
    have hX : (some (0, v)) = some (r, u1) := hX
    refine g_iconst (v := 0) F dX7_isOnTop_44 (by decide) ?_
    exact g_retC (wf := wM Y q) F hr rfl hlk dX7_isOnTop_45 hX
  have hX : (if (a1 < 0 ∨ 60 ≤ a1.toNatClampNeg) then none else (if (u.1 10 a1.toNatClampNeg) = 0 then (if (a1 < 0 ∨ 60 ≤ a1.toNatClampNeg) then none else (if (a1 < 0 ∨ 60 ≤ a1.toNatClampNeg) then none else (if (u.1 11 a1.toNatClampNeg < 0 ∨ 10 ≤ (u.1 11 a1.toNatClampNeg).toNatClampNeg) then none else (if (((4 * (u.1 11 a1.toNatClampNeg)) + (u.1 12 (u.1 11 a1.toNatClampNeg).toNatClampNeg)) - 1 < 0 ∨ 40 ≤ (((4 * (u.1 11 a1.toNatClampNeg)) + (u.1 12 (u.1 11 a1.toNatClampNeg).toNatClampNeg)) - 1).toNatClampNeg) then none else (if (u.1 13 (((4 * (u.1 11 a1.toNatClampNeg)) + (u.1 12 (u.1 11 a1.toNatClampNeg).toNatClampNeg)) - 1).toNatClampNeg) = a1 then (some (1, u)) else (pX7_isOnTop_b44 u)))))) else (pX7_isOnTop_b44 u))) = some (r, u1) := hX
  refine g_aload_n F dX7_isOnTop_0 0 rfl rfl ?_
  refine G_X7_51 F dX7_isOnTop_1 ?_
  refine g_iload_n F dX7_isOnTop_4 1 rfl rfl ?_
  obtain ⟨hI1, hX⟩ := inb hX
  refine AL_10 F hI1 dX7_isOnTop_5 ?_
  refine g_if_ne (tgt := 44) F dX7_isOnTop_6 (by decide) (fun c2 => ?_) (fun c2 => ?_)
  · have hX := if_f hX c2
    refine g_sub [] rfl ?_
    exact b44 u hX
  · have hX := if_t hX c2
    refine g_aload_n F dX7_isOnTop_9 0 rfl rfl ?_
    refine G_X7_60 F dX7_isOnTop_10 ?_
    refine g_iconst (v := 4) F dX7_isOnTop_13 (by decide) ?_
    refine g_aload_n F dX7_isOnTop_14 0 rfl rfl ?_
    refine G_X7_54 F dX7_isOnTop_15 ?_
    refine g_iload_n F dX7_isOnTop_18 1 rfl rfl ?_
    obtain ⟨hI3, hX⟩ := inb hX
    refine AL_11 F hI3 dX7_isOnTop_19 ?_
    refine g_imul F dX7_isOnTop_20 ?_
    refine g_aload_n F dX7_isOnTop_21 0 rfl rfl ?_
    refine G_X7_57 F dX7_isOnTop_22 ?_
    refine g_aload_n F dX7_isOnTop_25 0 rfl rfl ?_
    refine G_X7_54 F dX7_isOnTop_26 ?_
    refine g_iload_n F dX7_isOnTop_29 1 rfl rfl ?_
    obtain ⟨hI4, hX⟩ := inb hX
    refine AL_11 F hI4 dX7_isOnTop_30 ?_
    obtain ⟨hI5, hX⟩ := inb hX
    refine AL_12 F hI5 dX7_isOnTop_31 ?_
    refine g_iadd F dX7_isOnTop_32 ?_
    refine g_iconst (v := 1) F dX7_isOnTop_33 (by decide) ?_
    refine g_isub F dX7_isOnTop_34 ?_
    obtain ⟨hI6, hX⟩ := inb hX
    refine AL_13 F hI6 dX7_isOnTop_35 ?_
    refine g_iload_n F dX7_isOnTop_36 1 rfl rfl ?_
    refine g_icmp_ne (tgt := 44) F dX7_isOnTop_37 (by decide) (fun c7 => ?_) (fun c7 => ?_)
    · have hX := if_f hX c7
      refine g_sub [] rfl ?_
      exact b44 u hX
    · have hX := if_t hX c7
      refine g_iconst (v := 1) F dX7_isOnTop_40 (by decide) ?_
      refine g_goto (tgt := 45) F dX7_isOnTop_41 (by decide) ?_
      exact g_retC (wf := wM Y q) F hr rfl hlk dX7_isOnTop_45 hX
theorem callX7_isOnTop {p : Program} {l : Launch} {e : Env} {R : Room} {s : State} {m : MethodId} {args : Array Value} {below : List Frame} {meth : Method} {c : Code} {D : va_G} {Y : Nat → ClassId} {A : Nat → Prop} {cc : ByteArray} {nL : Nat} {own : String} {Q : State → Prop} {pc : Nat} {lv : List (Nat × Value)} {rest : List Value} {q : Nat → Nat} {a1 : Int32} {u u1 : St} {r : Int32} (F : Fx p s m args c D Y A cc nL own) (hX : pX7_isOnTop a1 u = some (r, u1)) {index : Nat} (hml : Cond.methodLink own index yX7_isOnTop ∈ TBL) (hR : 0 + 1 ≤ R.frames ∧ 8 + (2 + 11) + 0 ≤ R.locals) (hcat : (rest.map fun v => v.category).sum ≤ 8) (hd : decode cc pc = .ok (.invokevirtual index, 3)) (kk : GW p l e R s m args below meth c D A nL 0 0 Q (wM Y q u1) (pc + 3) lv (.int r :: rest)) : GW p l e R s m args below meth c D A nL 0 0 Q (wM Y q u) pc lv (.int a1 :: .ref (q 0) :: rest) := g_callVi (ws := wM Y q u) (n := 1) (q0 := 0) (As := [.int a1]) F [] [] (kX7_isOnTop hX) (List.append_nil _).symm (List.append_nil _) (by unfold mOK; decide +kernel) rfl rfl cd_yX7_isOnTop hml im_yX7_isOnTop se_yX7_isOnTop in_X7 rfl rfl hR ⟨Nat.zero_le _, Nat.zero_le _⟩ rfl hcat hd kk
theorem dX7_comesTo_0 : decode cX7_comesTo 0 = .ok (.aload_n 0, 1) := by decide +kernel
theorem dX7_comesTo_1 : decode cX7_comesTo 1 = .ok (.getfield 51, 3) := by decide +kernel
theorem dX7_comesTo_4 : decode cX7_comesTo 4 = .ok (.iload_n 1, 1) := by decide +kernel
theorem dX7_comesTo_5 : decode cX7_comesTo 5 = .ok (.iconst 0, 1) := by decide +kernel
theorem dX7_comesTo_6 : decode cX7_comesTo 6 = .ok (.iastore, 1) := by decide +kernel
theorem dX7_comesTo_7 : decode cX7_comesTo 7 = .ok (.aload_n 0, 1) := by decide +kernel
theorem dX7_comesTo_8 : decode cX7_comesTo 8 = .ok (.getfield 54, 3) := by decide +kernel
theorem dX7_comesTo_11 : decode cX7_comesTo 11 = .ok (.iload_n 1, 1) := by decide +kernel
theorem dX7_comesTo_12 : decode cX7_comesTo 12 = .ok (.iload_n 2, 1) := by decide +kernel
theorem dX7_comesTo_13 : decode cX7_comesTo 13 = .ok (.iastore, 1) := by decide +kernel
theorem dX7_comesTo_14 : decode cX7_comesTo 14 = .ok (.aload_n 0, 1) := by decide +kernel
theorem dX7_comesTo_15 : decode cX7_comesTo 15 = .ok (.getfield 60, 3) := by decide +kernel
theorem dX7_comesTo_18 : decode cX7_comesTo 18 = .ok (.iconst 4, 1) := by decide +kernel
theorem dX7_comesTo_19 : decode cX7_comesTo 19 = .ok (.iload_n 2, 1) := by decide +kernel
theorem dX7_comesTo_20 : decode cX7_comesTo 20 = .ok (.imul, 1) := by decide +kernel
theorem dX7_comesTo_21 : decode cX7_comesTo 21 = .ok (.aload_n 0, 1) := by decide +kernel
theorem dX7_comesTo_22 : decode cX7_comesTo 22 = .ok (.getfield 57, 3) := by decide +kernel
theorem dX7_comesTo_25 : decode cX7_comesTo 25 = .ok (.iload_n 2, 1) := by decide +kernel
theorem dX7_comesTo_26 : decode cX7_comesTo 26 = .ok (.iaload, 1) := by decide +kernel
theorem dX7_comesTo_27 : decode cX7_comesTo 27 = .ok (.iadd, 1) := by decide +kernel
theorem dX7_comesTo_28 : decode cX7_comesTo 28 = .ok (.iload_n 1, 1) := by decide +kernel
theorem dX7_comesTo_29 : decode cX7_comesTo 29 = .ok (.iastore, 1) := by decide +kernel
theorem dX7_comesTo_30 : decode cX7_comesTo 30 = .ok (.aload_n 0, 1) := by decide +kernel
theorem dX7_comesTo_31 : decode cX7_comesTo 31 = .ok (.getfield 57, 3) := by decide +kernel
theorem dX7_comesTo_34 : decode cX7_comesTo 34 = .ok (.iload_n 2, 1) := by decide +kernel
theorem dX7_comesTo_35 : decode cX7_comesTo 35 = .ok (.dup2, 1) := by decide +kernel
theorem dX7_comesTo_36 : decode cX7_comesTo 36 = .ok (.iaload, 1) := by decide +kernel
theorem dX7_comesTo_37 : decode cX7_comesTo 37 = .ok (.iconst 1, 1) := by decide +kernel
theorem dX7_comesTo_38 : decode cX7_comesTo 38 = .ok (.iadd, 1) := by decide +kernel
theorem dX7_comesTo_39 : decode cX7_comesTo 39 = .ok (.iastore, 1) := by decide +kernel
theorem dX7_comesTo_40 : decode cX7_comesTo 40 = .ok (.return_, 1) := by decide +kernel
def pX7_comesTo (a1 : Int32) (a2 : Int32) (u : St) : Option (Int32 × St) := if (a1 < 0 ∨ 60 ≤ a1.toNatClampNeg) then none else (if (a1 < 0 ∨ 60 ≤ a1.toNatClampNeg) then none else (if (a2 < 0 ∨ 10 ≤ a2.toNatClampNeg) then none else (if ((4 * a2) + ((sA (sA u 10 (upd (u.1 10) a1.toNatClampNeg 0)) 11 (upd ((sA u 10 (upd (u.1 10) a1.toNatClampNeg 0)).1 11) a1.toNatClampNeg a2)).1 12 a2.toNatClampNeg) < 0 ∨ 40 ≤ ((4 * a2) + ((sA (sA u 10 (upd (u.1 10) a1.toNatClampNeg 0)) 11 (upd ((sA u 10 (upd (u.1 10) a1.toNatClampNeg 0)).1 11) a1.toNatClampNeg a2)).1 12 a2.toNatClampNeg)).toNatClampNeg) then none else (if (a2 < 0 ∨ 10 ≤ a2.toNatClampNeg) then none else (if (a2 < 0 ∨ 10 ≤ a2.toNatClampNeg) then none else (some (0, sA (sA (sA (sA u 10 (upd (u.1 10) a1.toNatClampNeg 0)) 11 (upd ((sA u 10 (upd (u.1 10) a1.toNatClampNeg 0)).1 11) a1.toNatClampNeg a2)) 13 (upd ((sA (sA u 10 (upd (u.1 10) a1.toNatClampNeg 0)) 11 (upd ((sA u 10 (upd (u.1 10) a1.toNatClampNeg 0)).1 11) a1.toNatClampNeg a2)).1 13) ((4 * a2) + ((sA (sA u 10 (upd (u.1 10) a1.toNatClampNeg 0)) 11 (upd ((sA u 10 (upd (u.1 10) a1.toNatClampNeg 0)).1 11) a1.toNatClampNeg a2)).1 12 a2.toNatClampNeg)).toNatClampNeg a1)) 12 (upd ((sA (sA (sA u 10 (upd (u.1 10) a1.toNatClampNeg 0)) 11 (upd ((sA u 10 (upd (u.1 10) a1.toNatClampNeg 0)).1 11) a1.toNatClampNeg a2)) 13 (upd ((sA (sA u 10 (upd (u.1 10) a1.toNatClampNeg 0)) 11 (upd ((sA u 10 (upd (u.1 10) a1.toNatClampNeg 0)).1 11) a1.toNatClampNeg a2)).1 13) ((4 * a2) + ((sA (sA u 10 (upd (u.1 10) a1.toNatClampNeg 0)) 11 (upd ((sA u 10 (upd (u.1 10) a1.toNatClampNeg 0)).1 11) a1.toNatClampNeg a2)).1 12 a2.toNatClampNeg)).toNatClampNeg a1)).1 12) a2.toNatClampNeg (((sA (sA (sA u 10 (upd (u.1 10) a1.toNatClampNeg 0)) 11 (upd ((sA u 10 (upd (u.1 10) a1.toNatClampNeg 0)).1 11) a1.toNatClampNeg a2)) 13 (upd ((sA (sA u 10 (upd (u.1 10) a1.toNatClampNeg 0)) 11 (upd ((sA u 10 (upd (u.1 10) a1.toNatClampNeg 0)).1 11) a1.toNatClampNeg a2)).1 13) ((4 * a2) + ((sA (sA u 10 (upd (u.1 10) a1.toNatClampNeg 0)) 11 (upd ((sA u 10 (upd (u.1 10) a1.toNatClampNeg 0)).1 11) a1.toNatClampNeg a2)).1 12 a2.toNatClampNeg)).toNatClampNeg a1)).1 12 a2.toNatClampNeg) + 1)))))))))
set_option maxHeartbeats 4000000 in
set_option maxRecDepth 20000 in
theorem kX7_comesTo {l : Launch} {D : va_G} {Y : Nat → ClassId} {q : Nat → Nat} {a1 a2 : Int32} {u u1 : St} {r : Int32} (hX : pX7_comesTo a1 a2 u = some (r, u1)) : CMv l yX7_comesTo cX7_comesTo 3 0 0 D Y (wM Y q u) (wM Y q u1) [.ref (q 0), .int a1, .int a2] := by
  refine cm_ofv (by decide) (Nat.le_of_ble_eq_true rfl) rfl (fun p e s m args below meth c A F hr hlk => ?_)
  show GW p l e { frames := 0, cells := 0, slots := 0, locals := 0 } s m args below meth c D A 3 0 0 (MQ below (QV D (wM Y q u1) A) args s 0 0 A) (wM Y q u) 0 [(0, .ref (q 0)), (1, .int a1), (2, .int a2)] []
  have hX : (if (a1 < 0 ∨ 60 ≤ a1.toNatClampNeg) then none else (if (a1 < 0 ∨ 60 ≤ a1.toNatClampNeg) then none else (if (a2 < 0 ∨ 10 ≤ a2.toNatClampNeg) then none else (if ((4 * a2) + ((sA (sA u 10 (upd (u.1 10) a1.toNatClampNeg 0)) 11 (upd ((sA u 10 (upd (u.1 10) a1.toNatClampNeg 0)).1 11) a1.toNatClampNeg a2)).1 12 a2.toNatClampNeg) < 0 ∨ 40 ≤ ((4 * a2) + ((sA (sA u 10 (upd (u.1 10) a1.toNatClampNeg 0)) 11 (upd ((sA u 10 (upd (u.1 10) a1.toNatClampNeg 0)).1 11) a1.toNatClampNeg a2)).1 12 a2.toNatClampNeg)).toNatClampNeg) then none else (if (a2 < 0 ∨ 10 ≤ a2.toNatClampNeg) then none else (if (a2 < 0 ∨ 10 ≤ a2.toNatClampNeg) then none else (some (0, sA (sA (sA (sA u 10 (upd (u.1 10) a1.toNatClampNeg 0)) 11 (upd ((sA u 10 (upd (u.1 10) a1.toNatClampNeg 0)).1 11) a1.toNatClampNeg a2)) 13 (upd ((sA (sA u 10 (upd (u.1 10) a1.toNatClampNeg 0)) 11 (upd ((sA u 10 (upd (u.1 10) a1.toNatClampNeg 0)).1 11) a1.toNatClampNeg a2)).1 13) ((4 * a2) + ((sA (sA u 10 (upd (u.1 10) a1.toNatClampNeg 0)) 11 (upd ((sA u 10 (upd (u.1 10) a1.toNatClampNeg 0)).1 11) a1.toNatClampNeg a2)).1 12 a2.toNatClampNeg)).toNatClampNeg a1)) 12 (upd ((sA (sA (sA u 10 (upd (u.1 10) a1.toNatClampNeg 0)) 11 (upd ((sA u 10 (upd (u.1 10) a1.toNatClampNeg 0)).1 11) a1.toNatClampNeg a2)) 13 (upd ((sA (sA u 10 (upd (u.1 10) a1.toNatClampNeg 0)) 11 (upd ((sA u 10 (upd (u.1 10) a1.toNatClampNeg 0)).1 11) a1.toNatClampNeg a2)).1 13) ((4 * a2) + ((sA (sA u 10 (upd (u.1 10) a1.toNatClampNeg 0)) 11 (upd ((sA u 10 (upd (u.1 10) a1.toNatClampNeg 0)).1 11) a1.toNatClampNeg a2)).1 12 a2.toNatClampNeg)).toNatClampNeg a1)).1 12) a2.toNatClampNeg (((sA (sA (sA u 10 (upd (u.1 10) a1.toNatClampNeg 0)) 11 (upd ((sA u 10 (upd (u.1 10) a1.toNatClampNeg 0)).1 11) a1.toNatClampNeg a2)) 13 (upd ((sA (sA u 10 (upd (u.1 10) a1.toNatClampNeg 0)) 11 (upd ((sA u 10 (upd (u.1 10) a1.toNatClampNeg 0)).1 11) a1.toNatClampNeg a2)).1 13) ((4 * a2) + ((sA (sA u 10 (upd (u.1 10) a1.toNatClampNeg 0)) 11 (upd ((sA u 10 (upd (u.1 10) a1.toNatClampNeg 0)).1 11) a1.toNatClampNeg a2)).1 12 a2.toNatClampNeg)).toNatClampNeg a1)).1 12 a2.toNatClampNeg) + 1)))))))))) = some (r, u1) := hX
  refine g_aload_n F dX7_comesTo_0 0 rfl rfl ?_
  refine G_X7_51 F dX7_comesTo_1 ?_
  refine g_iload_n F dX7_comesTo_4 1 rfl rfl ?_
  refine g_iconst (v := 0) F dX7_comesTo_5 (by decide) ?_
  obtain ⟨hI1, hX⟩ := inb hX
  refine AS_10 F hI1 dX7_comesTo_6 ?_
  refine g_aload_n F dX7_comesTo_7 0 rfl rfl ?_
  refine G_X7_54 F dX7_comesTo_8 ?_
  refine g_iload_n F dX7_comesTo_11 1 rfl rfl ?_
  refine g_iload_n F dX7_comesTo_12 2 rfl rfl ?_
  obtain ⟨hI2, hX⟩ := inb hX
  refine AS_11 F hI2 dX7_comesTo_13 ?_
  refine g_aload_n F dX7_comesTo_14 0 rfl rfl ?_
  refine G_X7_60 F dX7_comesTo_15 ?_
  refine g_iconst (v := 4) F dX7_comesTo_18 (by decide) ?_
  refine g_iload_n F dX7_comesTo_19 2 rfl rfl ?_
  refine g_imul F dX7_comesTo_20 ?_
  refine g_aload_n F dX7_comesTo_21 0 rfl rfl ?_
  refine G_X7_57 F dX7_comesTo_22 ?_
  refine g_iload_n F dX7_comesTo_25 2 rfl rfl ?_
  obtain ⟨hI3, hX⟩ := inb hX
  refine AL_12 F hI3 dX7_comesTo_26 ?_
  refine g_iadd F dX7_comesTo_27 ?_
  refine g_iload_n F dX7_comesTo_28 1 rfl rfl ?_
  obtain ⟨hI4, hX⟩ := inb hX
  refine AS_13 F hI4 dX7_comesTo_29 ?_
  refine g_aload_n F dX7_comesTo_30 0 rfl rfl ?_
  refine G_X7_57 F dX7_comesTo_31 ?_
  refine g_iload_n F dX7_comesTo_34 2 rfl rfl ?_
  refine g_dup2 F dX7_comesTo_35 rfl rfl ?_
  obtain ⟨hI5, hX⟩ := inb hX
  refine AL_12 F hI5 dX7_comesTo_36 ?_
  refine g_iconst (v := 1) F dX7_comesTo_37 (by decide) ?_
  refine g_iadd F dX7_comesTo_38 ?_
  obtain ⟨hI6, hX⟩ := inb hX
  refine AS_12 F hI6 dX7_comesTo_39 ?_
  exact g_retV (wf := wM Y q) F hr hlk dX7_comesTo_40 hX
theorem callX7_comesTo {p : Program} {l : Launch} {e : Env} {R : Room} {s : State} {m : MethodId} {args : Array Value} {below : List Frame} {meth : Method} {c : Code} {D : va_G} {Y : Nat → ClassId} {A : Nat → Prop} {cc : ByteArray} {nL : Nat} {own : String} {Q : State → Prop} {pc : Nat} {lv : List (Nat × Value)} {rest : List Value} {q : Nat → Nat} {a1 a2 : Int32} {u u1 : St} {r : Int32} (F : Fx p s m args c D Y A cc nL own) (hX : pX7_comesTo a1 a2 u = some (r, u1)) {index : Nat} (hml : Cond.methodLink own index yX7_comesTo ∈ TBL) (hR : 0 + 1 ≤ R.frames ∧ 8 + (3 + 11) + 0 ≤ R.locals) (hcat : (rest.map fun v => v.category).sum ≤ 8) (hd : decode cc pc = .ok (.invokevirtual index, 3)) (kk : GW p l e R s m args below meth c D A nL 0 0 Q (wM Y q u1) (pc + 3) lv (rest)) : GW p l e R s m args below meth c D A nL 0 0 Q (wM Y q u) pc lv (.int a2 :: .int a1 :: .ref (q 0) :: rest) := g_callVv (ws := wM Y q u) (n := 2) (q0 := 0) (As := [.int a1, .int a2]) F [] [] (kX7_comesTo hX) (List.append_nil _).symm (List.append_nil _) (by unfold mOK; decide +kernel) rfl rfl cd_yX7_comesTo hml im_yX7_comesTo se_yX7_comesTo in_X7 rfl rfl hR ⟨Nat.zero_le _, Nat.zero_le _⟩ rfl hcat hd kk
theorem dX7_comesAboard_0 : decode cX7_comesAboard 0 = .ok (.aload_n 0, 1) := by decide +kernel
theorem dX7_comesAboard_1 : decode cX7_comesAboard 1 = .ok (.getfield 51, 3) := by decide +kernel
theorem dX7_comesAboard_4 : decode cX7_comesAboard 4 = .ok (.iload_n 1, 1) := by decide +kernel
theorem dX7_comesAboard_5 : decode cX7_comesAboard 5 = .ok (.iconst 1, 1) := by decide +kernel
theorem dX7_comesAboard_6 : decode cX7_comesAboard 6 = .ok (.iastore, 1) := by decide +kernel
theorem dX7_comesAboard_7 : decode cX7_comesAboard 7 = .ok (.aload_n 0, 1) := by decide +kernel
theorem dX7_comesAboard_8 : decode cX7_comesAboard 8 = .ok (.getfield 54, 3) := by decide +kernel
theorem dX7_comesAboard_11 : decode cX7_comesAboard 11 = .ok (.iload_n 1, 1) := by decide +kernel
theorem dX7_comesAboard_12 : decode cX7_comesAboard 12 = .ok (.iload_n 2, 1) := by decide +kernel
theorem dX7_comesAboard_13 : decode cX7_comesAboard 13 = .ok (.iastore, 1) := by decide +kernel
theorem dX7_comesAboard_14 : decode cX7_comesAboard 14 = .ok (.aload_n 0, 1) := by decide +kernel
theorem dX7_comesAboard_15 : decode cX7_comesAboard 15 = .ok (.getfield 7, 3) := by decide +kernel
theorem dX7_comesAboard_18 : decode cX7_comesAboard 18 = .ok (.iload_n 2, 1) := by decide +kernel
theorem dX7_comesAboard_19 : decode cX7_comesAboard 19 = .ok (.iload_n 1, 1) := by decide +kernel
theorem dX7_comesAboard_20 : decode cX7_comesAboard 20 = .ok (.iastore, 1) := by decide +kernel
theorem dX7_comesAboard_21 : decode cX7_comesAboard 21 = .ok (.return_, 1) := by decide +kernel
def pX7_comesAboard (a1 : Int32) (a2 : Int32) (u : St) : Option (Int32 × St) := if (a1 < 0 ∨ 60 ≤ a1.toNatClampNeg) then none else (if (a1 < 0 ∨ 60 ≤ a1.toNatClampNeg) then none else (if (a2 < 0 ∨ 72 ≤ a2.toNatClampNeg) then none else (some (0, sA (sA (sA u 10 (upd (u.1 10) a1.toNatClampNeg 1)) 11 (upd ((sA u 10 (upd (u.1 10) a1.toNatClampNeg 1)).1 11) a1.toNatClampNeg a2)) 0 (upd ((sA (sA u 10 (upd (u.1 10) a1.toNatClampNeg 1)) 11 (upd ((sA u 10 (upd (u.1 10) a1.toNatClampNeg 1)).1 11) a1.toNatClampNeg a2)).1 0) a2.toNatClampNeg a1)))))
set_option maxHeartbeats 4000000 in
set_option maxRecDepth 20000 in
theorem kX7_comesAboard {l : Launch} {D : va_G} {Y : Nat → ClassId} {q : Nat → Nat} {a1 a2 : Int32} {u u1 : St} {r : Int32} (hX : pX7_comesAboard a1 a2 u = some (r, u1)) : CMv l yX7_comesAboard cX7_comesAboard 3 0 0 D Y (wM Y q u) (wM Y q u1) [.ref (q 0), .int a1, .int a2] := by
  refine cm_ofv (by decide) (Nat.le_of_ble_eq_true rfl) rfl (fun p e s m args below meth c A F hr hlk => ?_)
  show GW p l e { frames := 0, cells := 0, slots := 0, locals := 0 } s m args below meth c D A 3 0 0 (MQ below (QV D (wM Y q u1) A) args s 0 0 A) (wM Y q u) 0 [(0, .ref (q 0)), (1, .int a1), (2, .int a2)] []
  have hX : (if (a1 < 0 ∨ 60 ≤ a1.toNatClampNeg) then none else (if (a1 < 0 ∨ 60 ≤ a1.toNatClampNeg) then none else (if (a2 < 0 ∨ 72 ≤ a2.toNatClampNeg) then none else (some (0, sA (sA (sA u 10 (upd (u.1 10) a1.toNatClampNeg 1)) 11 (upd ((sA u 10 (upd (u.1 10) a1.toNatClampNeg 1)).1 11) a1.toNatClampNeg a2)) 0 (upd ((sA (sA u 10 (upd (u.1 10) a1.toNatClampNeg 1)) 11 (upd ((sA u 10 (upd (u.1 10) a1.toNatClampNeg 1)).1 11) a1.toNatClampNeg a2)).1 0) a2.toNatClampNeg a1)))))) = some (r, u1) := hX
  refine g_aload_n F dX7_comesAboard_0 0 rfl rfl ?_
  refine G_X7_51 F dX7_comesAboard_1 ?_
  refine g_iload_n F dX7_comesAboard_4 1 rfl rfl ?_
  refine g_iconst (v := 1) F dX7_comesAboard_5 (by decide) ?_
  obtain ⟨hI1, hX⟩ := inb hX
  refine AS_10 F hI1 dX7_comesAboard_6 ?_
  refine g_aload_n F dX7_comesAboard_7 0 rfl rfl ?_
  refine G_X7_54 F dX7_comesAboard_8 ?_
  refine g_iload_n F dX7_comesAboard_11 1 rfl rfl ?_
  refine g_iload_n F dX7_comesAboard_12 2 rfl rfl ?_
  obtain ⟨hI2, hX⟩ := inb hX
  refine AS_11 F hI2 dX7_comesAboard_13 ?_
  refine g_aload_n F dX7_comesAboard_14 0 rfl rfl ?_
  refine G_X7_7 F dX7_comesAboard_15 ?_
  refine g_iload_n F dX7_comesAboard_18 2 rfl rfl ?_
  refine g_iload_n F dX7_comesAboard_19 1 rfl rfl ?_
  obtain ⟨hI3, hX⟩ := inb hX
  refine AS_0 F hI3 dX7_comesAboard_20 ?_
  exact g_retV (wf := wM Y q) F hr hlk dX7_comesAboard_21 hX
theorem callX7_comesAboard {p : Program} {l : Launch} {e : Env} {R : Room} {s : State} {m : MethodId} {args : Array Value} {below : List Frame} {meth : Method} {c : Code} {D : va_G} {Y : Nat → ClassId} {A : Nat → Prop} {cc : ByteArray} {nL : Nat} {own : String} {Q : State → Prop} {pc : Nat} {lv : List (Nat × Value)} {rest : List Value} {q : Nat → Nat} {a1 a2 : Int32} {u u1 : St} {r : Int32} (F : Fx p s m args c D Y A cc nL own) (hX : pX7_comesAboard a1 a2 u = some (r, u1)) {index : Nat} (hml : Cond.methodLink own index yX7_comesAboard ∈ TBL) (hR : 0 + 1 ≤ R.frames ∧ 8 + (3 + 11) + 0 ≤ R.locals) (hcat : (rest.map fun v => v.category).sum ≤ 8) (hd : decode cc pc = .ok (.invokevirtual index, 3)) (kk : GW p l e R s m args below meth c D A nL 0 0 Q (wM Y q u1) (pc + 3) lv (rest)) : GW p l e R s m args below meth c D A nL 0 0 Q (wM Y q u) pc lv (.int a2 :: .int a1 :: .ref (q 0) :: rest) := g_callVv (ws := wM Y q u) (n := 2) (q0 := 0) (As := [.int a1, .int a2]) F [] [] (kX7_comesAboard hX) (List.append_nil _).symm (List.append_nil _) (by unfold mOK; decide +kernel) rfl rfl cd_yX7_comesAboard hml im_yX7_comesAboard se_yX7_comesAboard in_X7 rfl rfl hR ⟨Nat.zero_le _, Nat.zero_le _⟩ rfl hcat hd kk
theorem dX7_nextPort_0 : decode cX7_nextPort 0 = .ok (.iload_n 1, 1) := by decide +kernel
theorem dX7_nextPort_1 : decode cX7_nextPort 1 = .ok (.iconst 1, 1) := by decide +kernel
theorem dX7_nextPort_2 : decode cX7_nextPort 2 = .ok (.iadd, 1) := by decide +kernel
theorem dX7_nextPort_3 : decode cX7_nextPort 3 = .ok (.istore_n 2, 1) := by decide +kernel
theorem dX7_nextPort_4 : decode cX7_nextPort 4 = .ok (.iload_n 2, 1) := by decide +kernel
theorem dX7_nextPort_5 : decode cX7_nextPort 5 = .ok (.bipush 9, 2) := by decide +kernel
theorem dX7_nextPort_7 : decode cX7_nextPort 7 = .ok (.if_icmp .ge 18, 3) := by decide +kernel
theorem dX7_nextPort_10 : decode cX7_nextPort 10 = .ok (.aload_n 0, 1) := by decide +kernel
theorem dX7_nextPort_11 : decode cX7_nextPort 11 = .ok (.getfield 63, 3) := by decide +kernel
theorem dX7_nextPort_14 : decode cX7_nextPort 14 = .ok (.iload_n 2, 1) := by decide +kernel
theorem dX7_nextPort_15 : decode cX7_nextPort 15 = .ok (.baload, 1) := by decide +kernel
theorem dX7_nextPort_16 : decode cX7_nextPort 16 = .ok (.ifCond .eq 9, 3) := by decide +kernel
theorem dX7_nextPort_19 : decode cX7_nextPort 19 = .ok (.iinc 2 1, 3) := by decide +kernel
theorem dX7_nextPort_22 : decode cX7_nextPort 22 = .ok (.goto (-18), 3) := by decide +kernel
theorem dX7_nextPort_25 : decode cX7_nextPort 25 = .ok (.iload_n 2, 1) := by decide +kernel
theorem dX7_nextPort_26 : decode cX7_nextPort 26 = .ok (.ireturn, 1) := by decide +kernel
def pX7_nextPort_b25  (x2 : Int32) (v : St) : Option (Int32 × St) := some (x2, v)
def pX7_nextPort_b4  (n : Nat) : Int32 → St → Option (Int32 × St) := Nat.rec (fun _ _ => none) (fun _ K4 x2 v => if 9 ≤ x2 then (pX7_nextPort_b25 x2 v) else (if (x2 < 0 ∨ 10 ≤ x2.toNatClampNeg) then none else (if (v.1 14 x2.toNatClampNeg) = 0 then (pX7_nextPort_b25 x2 v) else (K4 (x2 + 1) v)))) n
def pX7_nextPort (a1 : Int32) (u : St) : Option (Int32 × St) := pX7_nextPort_b4 100 (a1 + 1) u
set_option maxHeartbeats 4000000 in
set_option maxRecDepth 20000 in
theorem kX7_nextPort {l : Launch} {D : va_G} {Y : Nat → ClassId} {q : Nat → Nat} {a1 : Int32} {u u1 : St} {r : Int32} (hX : pX7_nextPort a1 u = some (r, u1)) : CMi l yX7_nextPort cX7_nextPort 3 (some .int) 0 0 D Y (wM Y q u) (wM Y q u1) [.ref (q 0), .int a1] r := by
  refine cm_ofi (by decide) (Nat.le_of_ble_eq_true rfl) rfl (fun p e s m args below meth c A F hr hlk => ?_)
  show GW p l e { frames := 0, cells := 0, slots := 0, locals := 0 } s m args below meth c D A 3 0 0 (MQ below (QI D (wM Y q u1) r A) args s 0 0 A) (wM Y q u) 0 [(0, .ref (q 0)), (1, .int a1)] []
  have b25 : ∀  (x2 : Int32) (v : St), pX7_nextPort_b25  x2 v = some (r, u1) → GW p l e { frames := 0, cells := 0, slots := 0, locals := 0 } s m args below meth c D A 3 0 0 (MQ below (QI D (wM Y q u1) r A) args s 0 0 A) (wM Y q v) 25 [(2, .int x2)] [] := by
    intro  x2 v hX
    have hX : (some (x2, v)) = some (r, u1) := hX
    refine g_iload_n F dX7_nextPort_25 0 rfl rfl ?_
    exact g_retC (wf := wM Y q) F hr rfl hlk dX7_nextPort_26 hX
  have b4 : ∀  (n : Nat) (x2 : Int32) (v : St), pX7_nextPort_b4  n x2 v = some (r, u1) → GW p l e { frames := 0, cells := 0, slots := 0, locals := 0 } s m args below meth c D A 3 0 0 (MQ below (QI D (wM Y q u1) r A) args s 0 0 A) (wM Y q v) 4 [(0, .ref (q 0)), (2, .int x2)] [] := by
    intro  n
    induction n with
    | zero => intro x2 v hX; cases hX
    | succ n ih =>
      intro x2 v hX
      obtain ⟨K4, eK⟩ : ∃ K : Int32 → St → Option (Int32 × St), K = pX7_nextPort_b4  n := ⟨_, rfl⟩
      have hK4 : ∀ (x2 : Int32) (v : St), K4 x2 v = some (r, u1) → GW p l e { frames := 0, cells := 0, slots := 0, locals := 0 } s m args below meth c D A 3 0 0 (MQ below (QI D (wM Y q u1) r A) args s 0 0 A) (wM Y q v) 4 [(0, .ref (q 0)), (2, .int x2)] [] := by rw [eK]; exact ih
      have hX : (if 9 ≤ x2 then (pX7_nextPort_b25 x2 v) else (if (x2 < 0 ∨ 10 ≤ x2.toNatClampNeg) then none else (if (v.1 14 x2.toNatClampNeg) = 0 then (pX7_nextPort_b25 x2 v) else (K4 (x2 + 1) v)))) = some (r, u1) := by rw [eK]; exact hX
      refine g_iload_n F dX7_nextPort_4 1 rfl rfl ?_
      refine g_bipush (v := 9) F dX7_nextPort_5 (by decide) ?_
      refine g_icmp_ge (tgt := 25) F dX7_nextPort_7 (by decide) (fun c1 => ?_) (fun c1 => ?_)
      · have hX := if_t hX c1
        refine g_sub [1] rfl ?_
        exact b25 x2 v hX
      · have hX := if_f hX c1
        refine g_aload_n F dX7_nextPort_10 0 rfl rfl ?_
        refine G_X7_63 F dX7_nextPort_11 ?_
        refine g_iload_n F dX7_nextPort_14 1 rfl rfl ?_
        obtain ⟨hI2, hX⟩ := inb hX
        refine AL_14 F hI2 dX7_nextPort_15 ?_
        refine g_if_eq (tgt := 25) F dX7_nextPort_16 (by decide) (fun c3 => ?_) (fun c3 => ?_)
        · have hX := if_t hX c3
          refine g_sub [1] rfl ?_
          exact b25 x2 v hX
        · have hX := if_f hX c3
          refine g_iinc (v := x2 + 1) (lv' := [(2, .int (x2 + 1)), (0, .ref (q 0))]) F dX7_nextPort_19 1 rfl rfl (by decide) rfl ?_
          refine g_goto (tgt := 4) F dX7_nextPort_22 (by decide) ?_
          refine g_sub [1, 0] rfl ?_
          exact hK4 (x2 + 1) v hX
  have hX : (pX7_nextPort_b4 100 (a1 + 1) u) = some (r, u1) := hX
  refine g_iload_n F dX7_nextPort_0 1 rfl rfl ?_
  refine g_iconst (v := 1) F dX7_nextPort_1 (by decide) ?_
  refine g_iadd F dX7_nextPort_2 ?_
  refine g_istore_n (lv' := [(2, .int (a1 + 1)), (0, .ref (q 0)), (1, .int a1)]) F dX7_nextPort_3 rfl (by decide) rfl ?_
  refine g_sub [1, 0] rfl ?_
  exact b4 100 (a1 + 1) u hX
theorem callX7_nextPort {p : Program} {l : Launch} {e : Env} {R : Room} {s : State} {m : MethodId} {args : Array Value} {below : List Frame} {meth : Method} {c : Code} {D : va_G} {Y : Nat → ClassId} {A : Nat → Prop} {cc : ByteArray} {nL : Nat} {own : String} {Q : State → Prop} {pc : Nat} {lv : List (Nat × Value)} {rest : List Value} {q : Nat → Nat} {a1 : Int32} {u u1 : St} {r : Int32} (F : Fx p s m args c D Y A cc nL own) (hX : pX7_nextPort a1 u = some (r, u1)) {index : Nat} (hml : Cond.methodLink own index yX7_nextPort ∈ TBL) (hR : 0 + 1 ≤ R.frames ∧ 8 + (3 + 11) + 0 ≤ R.locals) (hcat : (rest.map fun v => v.category).sum ≤ 8) (hd : decode cc pc = .ok (.invokevirtual index, 3)) (kk : GW p l e R s m args below meth c D A nL 0 0 Q (wM Y q u1) (pc + 3) lv (.int r :: rest)) : GW p l e R s m args below meth c D A nL 0 0 Q (wM Y q u) pc lv (.int a1 :: .ref (q 0) :: rest) := g_callVi (ws := wM Y q u) (n := 1) (q0 := 0) (As := [.int a1]) F [] [] (kX7_nextPort hX) (List.append_nil _).symm (List.append_nil _) (by unfold mOK; decide +kernel) rfl rfl cd_yX7_nextPort hml im_yX7_nextPort se_yX7_nextPort in_X7 rfl rfl hR ⟨Nat.zero_le _, Nat.zero_le _⟩ rfl hcat hd kk
theorem dX7_removes_0 : decode cX7_removes 0 = .ok (.aload_n 0, 1) := by decide +kernel
theorem dX7_removes_1 : decode cX7_removes 1 = .ok (.dup, 1) := by decide +kernel
theorem dX7_removes_2 : decode cX7_removes 2 = .ok (.getfield 97, 3) := by decide +kernel
theorem dX7_removes_5 : decode cX7_removes 5 = .ok (.iconst 1, 1) := by decide +kernel
theorem dX7_removes_6 : decode cX7_removes 6 = .ok (.isub, 1) := by decide +kernel
theorem dX7_removes_7 : decode cX7_removes 7 = .ok (.putfield 97, 3) := by decide +kernel
theorem dX7_removes_10 : decode cX7_removes 10 = .ok (.iload_n 1, 1) := by decide +kernel
theorem dX7_removes_11 : decode cX7_removes 11 = .ok (.istore_n 2, 1) := by decide +kernel
theorem dX7_removes_12 : decode cX7_removes 12 = .ok (.iload_n 2, 1) := by decide +kernel
theorem dX7_removes_13 : decode cX7_removes 13 = .ok (.aload_n 0, 1) := by decide +kernel
theorem dX7_removes_14 : decode cX7_removes 14 = .ok (.getfield 97, 3) := by decide +kernel
theorem dX7_removes_17 : decode cX7_removes 17 = .ok (.if_icmp .ge 51, 3) := by decide +kernel
theorem dX7_removes_20 : decode cX7_removes 20 = .ok (.aload_n 0, 1) := by decide +kernel
theorem dX7_removes_21 : decode cX7_removes 21 = .ok (.getfield 75, 3) := by decide +kernel
theorem dX7_removes_24 : decode cX7_removes 24 = .ok (.iload_n 2, 1) := by decide +kernel
theorem dX7_removes_25 : decode cX7_removes 25 = .ok (.aload_n 0, 1) := by decide +kernel
theorem dX7_removes_26 : decode cX7_removes 26 = .ok (.getfield 75, 3) := by decide +kernel
theorem dX7_removes_29 : decode cX7_removes 29 = .ok (.iload_n 2, 1) := by decide +kernel
theorem dX7_removes_30 : decode cX7_removes 30 = .ok (.iconst 1, 1) := by decide +kernel
theorem dX7_removes_31 : decode cX7_removes 31 = .ok (.iadd, 1) := by decide +kernel
theorem dX7_removes_32 : decode cX7_removes 32 = .ok (.iaload, 1) := by decide +kernel
theorem dX7_removes_33 : decode cX7_removes 33 = .ok (.iastore, 1) := by decide +kernel
theorem dX7_removes_34 : decode cX7_removes 34 = .ok (.aload_n 0, 1) := by decide +kernel
theorem dX7_removes_35 : decode cX7_removes 35 = .ok (.getfield 78, 3) := by decide +kernel
theorem dX7_removes_38 : decode cX7_removes 38 = .ok (.iload_n 2, 1) := by decide +kernel
theorem dX7_removes_39 : decode cX7_removes 39 = .ok (.aload_n 0, 1) := by decide +kernel
theorem dX7_removes_40 : decode cX7_removes 40 = .ok (.getfield 78, 3) := by decide +kernel
theorem dX7_removes_43 : decode cX7_removes 43 = .ok (.iload_n 2, 1) := by decide +kernel
theorem dX7_removes_44 : decode cX7_removes 44 = .ok (.iconst 1, 1) := by decide +kernel
theorem dX7_removes_45 : decode cX7_removes 45 = .ok (.iadd, 1) := by decide +kernel
theorem dX7_removes_46 : decode cX7_removes 46 = .ok (.iaload, 1) := by decide +kernel
theorem dX7_removes_47 : decode cX7_removes 47 = .ok (.iastore, 1) := by decide +kernel
theorem dX7_removes_48 : decode cX7_removes 48 = .ok (.aload_n 0, 1) := by decide +kernel
theorem dX7_removes_49 : decode cX7_removes 49 = .ok (.getfield 81, 3) := by decide +kernel
theorem dX7_removes_52 : decode cX7_removes 52 = .ok (.iload_n 2, 1) := by decide +kernel
theorem dX7_removes_53 : decode cX7_removes 53 = .ok (.aload_n 0, 1) := by decide +kernel
theorem dX7_removes_54 : decode cX7_removes 54 = .ok (.getfield 81, 3) := by decide +kernel
theorem dX7_removes_57 : decode cX7_removes 57 = .ok (.iload_n 2, 1) := by decide +kernel
theorem dX7_removes_58 : decode cX7_removes 58 = .ok (.iconst 1, 1) := by decide +kernel
theorem dX7_removes_59 : decode cX7_removes 59 = .ok (.iadd, 1) := by decide +kernel
theorem dX7_removes_60 : decode cX7_removes 60 = .ok (.iaload, 1) := by decide +kernel
theorem dX7_removes_61 : decode cX7_removes 61 = .ok (.iastore, 1) := by decide +kernel
theorem dX7_removes_62 : decode cX7_removes 62 = .ok (.iinc 2 1, 3) := by decide +kernel
theorem dX7_removes_65 : decode cX7_removes 65 = .ok (.goto (-53), 3) := by decide +kernel
theorem dX7_removes_68 : decode cX7_removes 68 = .ok (.return_, 1) := by decide +kernel
def pX7_removes_b12  (n : Nat) : Int32 → St → Option (Int32 × St) := Nat.rec (fun _ _ => none) (fun _ K12 x2 v => if (v.2 6) ≤ x2 then (some (0, v)) else (if (x2 + 1 < 0 ∨ 20 ≤ (x2 + 1).toNatClampNeg) then none else (if (x2 < 0 ∨ 20 ≤ x2.toNatClampNeg) then none else (if (x2 + 1 < 0 ∨ 20 ≤ (x2 + 1).toNatClampNeg) then none else (if (x2 < 0 ∨ 20 ≤ x2.toNatClampNeg) then none else (if (x2 + 1 < 0 ∨ 20 ≤ (x2 + 1).toNatClampNeg) then none else (if (x2 < 0 ∨ 20 ≤ x2.toNatClampNeg) then none else (K12 (x2 + 1) (sA (sA (sA v 18 (upd (v.1 18) x2.toNatClampNeg (v.1 18 (x2 + 1).toNatClampNeg))) 19 (upd ((sA v 18 (upd (v.1 18) x2.toNatClampNeg (v.1 18 (x2 + 1).toNatClampNeg))).1 19) x2.toNatClampNeg ((sA v 18 (upd (v.1 18) x2.toNatClampNeg (v.1 18 (x2 + 1).toNatClampNeg))).1 19 (x2 + 1).toNatClampNeg))) 20 (upd ((sA (sA v 18 (upd (v.1 18) x2.toNatClampNeg (v.1 18 (x2 + 1).toNatClampNeg))) 19 (upd ((sA v 18 (upd (v.1 18) x2.toNatClampNeg (v.1 18 (x2 + 1).toNatClampNeg))).1 19) x2.toNatClampNeg ((sA v 18 (upd (v.1 18) x2.toNatClampNeg (v.1 18 (x2 + 1).toNatClampNeg))).1 19 (x2 + 1).toNatClampNeg))).1 20) x2.toNatClampNeg ((sA (sA v 18 (upd (v.1 18) x2.toNatClampNeg (v.1 18 (x2 + 1).toNatClampNeg))) 19 (upd ((sA v 18 (upd (v.1 18) x2.toNatClampNeg (v.1 18 (x2 + 1).toNatClampNeg))).1 19) x2.toNatClampNeg ((sA v 18 (upd (v.1 18) x2.toNatClampNeg (v.1 18 (x2 + 1).toNatClampNeg))).1 19 (x2 + 1).toNatClampNeg))).1 20 (x2 + 1).toNatClampNeg))))))))))) n
def pX7_removes (a1 : Int32) (u : St) : Option (Int32 × St) := pX7_removes_b12 100 a1 (sS u 6 ((u.2 6) - 1))
set_option maxHeartbeats 4000000 in
set_option maxRecDepth 20000 in
theorem kX7_removes {l : Launch} {D : va_G} {Y : Nat → ClassId} {q : Nat → Nat} {a1 : Int32} {u u1 : St} {r : Int32} (hX : pX7_removes a1 u = some (r, u1)) : CMv l yX7_removes cX7_removes 3 0 0 D Y (wM Y q u) (wM Y q u1) [.ref (q 0), .int a1] := by
  refine cm_ofv (by decide) (Nat.le_of_ble_eq_true rfl) rfl (fun p e s m args below meth c A F hr hlk => ?_)
  show GW p l e { frames := 0, cells := 0, slots := 0, locals := 0 } s m args below meth c D A 3 0 0 (MQ below (QV D (wM Y q u1) A) args s 0 0 A) (wM Y q u) 0 [(0, .ref (q 0)), (1, .int a1)] []
  have b12 : ∀  (n : Nat) (x2 : Int32) (v : St), pX7_removes_b12  n x2 v = some (r, u1) → GW p l e { frames := 0, cells := 0, slots := 0, locals := 0 } s m args below meth c D A 3 0 0 (MQ below (QV D (wM Y q u1) A) args s 0 0 A) (wM Y q v) 12 [(0, .ref (q 0)), (2, .int x2)] [] := by
    intro  n
    induction n with
    | zero => intro x2 v hX; cases hX
    | succ n ih =>
      intro x2 v hX
      obtain ⟨K12, eK⟩ : ∃ K : Int32 → St → Option (Int32 × St), K = pX7_removes_b12  n := ⟨_, rfl⟩
      have hK12 : ∀ (x2 : Int32) (v : St), K12 x2 v = some (r, u1) → GW p l e { frames := 0, cells := 0, slots := 0, locals := 0 } s m args below meth c D A 3 0 0 (MQ below (QV D (wM Y q u1) A) args s 0 0 A) (wM Y q v) 12 [(0, .ref (q 0)), (2, .int x2)] [] := by rw [eK]; exact ih
      have hX : (if (v.2 6) ≤ x2 then (some (0, v)) else (if (x2 + 1 < 0 ∨ 20 ≤ (x2 + 1).toNatClampNeg) then none else (if (x2 < 0 ∨ 20 ≤ x2.toNatClampNeg) then none else (if (x2 + 1 < 0 ∨ 20 ≤ (x2 + 1).toNatClampNeg) then none else (if (x2 < 0 ∨ 20 ≤ x2.toNatClampNeg) then none else (if (x2 + 1 < 0 ∨ 20 ≤ (x2 + 1).toNatClampNeg) then none else (if (x2 < 0 ∨ 20 ≤ x2.toNatClampNeg) then none else (K12 (x2 + 1) (sA (sA (sA v 18 (upd (v.1 18) x2.toNatClampNeg (v.1 18 (x2 + 1).toNatClampNeg))) 19 (upd ((sA v 18 (upd (v.1 18) x2.toNatClampNeg (v.1 18 (x2 + 1).toNatClampNeg))).1 19) x2.toNatClampNeg ((sA v 18 (upd (v.1 18) x2.toNatClampNeg (v.1 18 (x2 + 1).toNatClampNeg))).1 19 (x2 + 1).toNatClampNeg))) 20 (upd ((sA (sA v 18 (upd (v.1 18) x2.toNatClampNeg (v.1 18 (x2 + 1).toNatClampNeg))) 19 (upd ((sA v 18 (upd (v.1 18) x2.toNatClampNeg (v.1 18 (x2 + 1).toNatClampNeg))).1 19) x2.toNatClampNeg ((sA v 18 (upd (v.1 18) x2.toNatClampNeg (v.1 18 (x2 + 1).toNatClampNeg))).1 19 (x2 + 1).toNatClampNeg))).1 20) x2.toNatClampNeg ((sA (sA v 18 (upd (v.1 18) x2.toNatClampNeg (v.1 18 (x2 + 1).toNatClampNeg))) 19 (upd ((sA v 18 (upd (v.1 18) x2.toNatClampNeg (v.1 18 (x2 + 1).toNatClampNeg))).1 19) x2.toNatClampNeg ((sA v 18 (upd (v.1 18) x2.toNatClampNeg (v.1 18 (x2 + 1).toNatClampNeg))).1 19 (x2 + 1).toNatClampNeg))).1 20 (x2 + 1).toNatClampNeg))))))))))) = some (r, u1) := by rw [eK]; exact hX
      refine g_iload_n F dX7_removes_12 1 rfl rfl ?_
      refine g_aload_n F dX7_removes_13 0 rfl rfl ?_
      refine G_X7_97 F dX7_removes_14 ?_
      refine g_icmp_ge (tgt := 68) F dX7_removes_17 (by decide) (fun c1 => ?_) (fun c1 => ?_)
      · have hX := if_t hX c1
        exact g_retV (wf := wM Y q) F hr hlk dX7_removes_68 hX
      · have hX := if_f hX c1
        refine g_aload_n F dX7_removes_20 0 rfl rfl ?_
        refine G_X7_75 F dX7_removes_21 ?_
        refine g_iload_n F dX7_removes_24 1 rfl rfl ?_
        refine g_aload_n F dX7_removes_25 0 rfl rfl ?_
        refine G_X7_75 F dX7_removes_26 ?_
        refine g_iload_n F dX7_removes_29 1 rfl rfl ?_
        refine g_iconst (v := 1) F dX7_removes_30 (by decide) ?_
        refine g_iadd F dX7_removes_31 ?_
        obtain ⟨hI2, hX⟩ := inb hX
        refine AL_18 F hI2 dX7_removes_32 ?_
        obtain ⟨hI3, hX⟩ := inb hX
        refine AS_18 F hI3 dX7_removes_33 ?_
        refine g_aload_n F dX7_removes_34 0 rfl rfl ?_
        refine G_X7_78 F dX7_removes_35 ?_
        refine g_iload_n F dX7_removes_38 1 rfl rfl ?_
        refine g_aload_n F dX7_removes_39 0 rfl rfl ?_
        refine G_X7_78 F dX7_removes_40 ?_
        refine g_iload_n F dX7_removes_43 1 rfl rfl ?_
        refine g_iconst (v := 1) F dX7_removes_44 (by decide) ?_
        refine g_iadd F dX7_removes_45 ?_
        obtain ⟨hI4, hX⟩ := inb hX
        refine AL_19 F hI4 dX7_removes_46 ?_
        obtain ⟨hI5, hX⟩ := inb hX
        refine AS_19 F hI5 dX7_removes_47 ?_
        refine g_aload_n F dX7_removes_48 0 rfl rfl ?_
        refine G_X7_81 F dX7_removes_49 ?_
        refine g_iload_n F dX7_removes_52 1 rfl rfl ?_
        refine g_aload_n F dX7_removes_53 0 rfl rfl ?_
        refine G_X7_81 F dX7_removes_54 ?_
        refine g_iload_n F dX7_removes_57 1 rfl rfl ?_
        refine g_iconst (v := 1) F dX7_removes_58 (by decide) ?_
        refine g_iadd F dX7_removes_59 ?_
        obtain ⟨hI6, hX⟩ := inb hX
        refine AL_20 F hI6 dX7_removes_60 ?_
        obtain ⟨hI7, hX⟩ := inb hX
        refine AS_20 F hI7 dX7_removes_61 ?_
        refine g_iinc (v := x2 + 1) (lv' := [(2, .int (x2 + 1)), (0, .ref (q 0))]) F dX7_removes_62 1 rfl rfl (by decide) rfl ?_
        refine g_goto (tgt := 12) F dX7_removes_65 (by decide) ?_
        refine g_sub [1, 0] rfl ?_
        exact hK12 (x2 + 1) (sA (sA (sA v 18 (upd (v.1 18) x2.toNatClampNeg (v.1 18 (x2 + 1).toNatClampNeg))) 19 (upd ((sA v 18 (upd (v.1 18) x2.toNatClampNeg (v.1 18 (x2 + 1).toNatClampNeg))).1 19) x2.toNatClampNeg ((sA v 18 (upd (v.1 18) x2.toNatClampNeg (v.1 18 (x2 + 1).toNatClampNeg))).1 19 (x2 + 1).toNatClampNeg))) 20 (upd ((sA (sA v 18 (upd (v.1 18) x2.toNatClampNeg (v.1 18 (x2 + 1).toNatClampNeg))) 19 (upd ((sA v 18 (upd (v.1 18) x2.toNatClampNeg (v.1 18 (x2 + 1).toNatClampNeg))).1 19) x2.toNatClampNeg ((sA v 18 (upd (v.1 18) x2.toNatClampNeg (v.1 18 (x2 + 1).toNatClampNeg))).1 19 (x2 + 1).toNatClampNeg))).1 20) x2.toNatClampNeg ((sA (sA v 18 (upd (v.1 18) x2.toNatClampNeg (v.1 18 (x2 + 1).toNatClampNeg))) 19 (upd ((sA v 18 (upd (v.1 18) x2.toNatClampNeg (v.1 18 (x2 + 1).toNatClampNeg))).1 19) x2.toNatClampNeg ((sA v 18 (upd (v.1 18) x2.toNatClampNeg (v.1 18 (x2 + 1).toNatClampNeg))).1 19 (x2 + 1).toNatClampNeg))).1 20 (x2 + 1).toNatClampNeg))) hX
  have hX : (pX7_removes_b12 100 a1 (sS u 6 ((u.2 6) - 1))) = some (r, u1) := hX
  refine g_aload_n F dX7_removes_0 0 rfl rfl ?_
  refine g_dup F dX7_removes_1 rfl ?_
  refine G_X7_97 F dX7_removes_2 ?_
  refine g_iconst (v := 1) F dX7_removes_5 (by decide) ?_
  refine g_isub F dX7_removes_6 ?_
  refine P_X7_97 F dX7_removes_7 ?_
  refine g_iload_n F dX7_removes_10 1 rfl rfl ?_
  refine g_istore_n (lv' := [(2, .int a1), (0, .ref (q 0)), (1, .int a1)]) F dX7_removes_11 rfl (by decide) rfl ?_
  refine g_sub [1, 0] rfl ?_
  exact b12 100 a1 (sS u 6 ((u.2 6) - 1)) hX
theorem callX7_removes {p : Program} {l : Launch} {e : Env} {R : Room} {s : State} {m : MethodId} {args : Array Value} {below : List Frame} {meth : Method} {c : Code} {D : va_G} {Y : Nat → ClassId} {A : Nat → Prop} {cc : ByteArray} {nL : Nat} {own : String} {Q : State → Prop} {pc : Nat} {lv : List (Nat × Value)} {rest : List Value} {q : Nat → Nat} {a1 : Int32} {u u1 : St} {r : Int32} (F : Fx p s m args c D Y A cc nL own) (hX : pX7_removes a1 u = some (r, u1)) {index : Nat} (hml : Cond.methodLink own index yX7_removes ∈ TBL) (hR : 0 + 1 ≤ R.frames ∧ 8 + (3 + 11) + 0 ≤ R.locals) (hcat : (rest.map fun v => v.category).sum ≤ 8) (hd : decode cc pc = .ok (.invokevirtual index, 3)) (kk : GW p l e R s m args below meth c D A nL 0 0 Q (wM Y q u1) (pc + 3) lv (rest)) : GW p l e R s m args below meth c D A nL 0 0 Q (wM Y q u) pc lv (.int a1 :: .ref (q 0) :: rest) := g_callVv (ws := wM Y q u) (n := 1) (q0 := 0) (As := [.int a1]) F [] [] (kX7_removes hX) (List.append_nil _).symm (List.append_nil _) (by unfold mOK; decide +kernel) rfl rfl cd_yX7_removes hml im_yX7_removes se_yX7_removes in_X7 rfl rfl hR ⟨Nat.zero_le _, Nat.zero_le _⟩ rfl hcat hd kk
theorem dX7_isPossible_0 : decode cX7_isPossible 0 = .ok (.aload_n 0, 1) := by decide +kernel
theorem dX7_isPossible_1 : decode cX7_isPossible 1 = .ok (.getfield 78, 3) := by decide +kernel
theorem dX7_isPossible_4 : decode cX7_isPossible 4 = .ok (.iload_n 1, 1) := by decide +kernel
theorem dX7_isPossible_5 : decode cX7_isPossible 5 = .ok (.iaload, 1) := by decide +kernel
theorem dX7_isPossible_6 : decode cX7_isPossible 6 = .ok (.istore_n 2, 1) := by decide +kernel
theorem dX7_isPossible_7 : decode cX7_isPossible 7 = .ok (.aload_n 0, 1) := by decide +kernel
theorem dX7_isPossible_8 : decode cX7_isPossible 8 = .ok (.getfield 75, 3) := by decide +kernel
theorem dX7_isPossible_11 : decode cX7_isPossible 11 = .ok (.iload_n 1, 1) := by decide +kernel
theorem dX7_isPossible_12 : decode cX7_isPossible 12 = .ok (.iaload, 1) := by decide +kernel
theorem dX7_isPossible_13 : decode cX7_isPossible 13 = .ok (.tableswitch 185 0 3 #[31, 80, 126, 179], 31) := by decide +kernel
theorem dX7_isPossible_44 : decode cX7_isPossible 44 = .ok (.aload_n 0, 1) := by decide +kernel
theorem dX7_isPossible_45 : decode cX7_isPossible 45 = .ok (.iload_n 2, 1) := by decide +kernel
theorem dX7_isPossible_46 : decode cX7_isPossible 46 = .ok (.invokevirtual 162, 3) := by decide +kernel
theorem dX7_isPossible_49 : decode cX7_isPossible 49 = .ok (.ifCond .eq 42, 3) := by decide +kernel
theorem dX7_isPossible_52 : decode cX7_isPossible 52 = .ok (.aload_n 0, 1) := by decide +kernel
theorem dX7_isPossible_53 : decode cX7_isPossible 53 = .ok (.iload_n 2, 1) := by decide +kernel
theorem dX7_isPossible_54 : decode cX7_isPossible 54 = .ok (.invokevirtual 146, 3) := by decide +kernel
theorem dX7_isPossible_57 : decode cX7_isPossible 57 = .ok (.ifCond .ne 34, 3) := by decide +kernel
theorem dX7_isPossible_60 : decode cX7_isPossible 60 = .ok (.aload_n 0, 1) := by decide +kernel
theorem dX7_isPossible_61 : decode cX7_isPossible 61 = .ok (.aload_n 0, 1) := by decide +kernel
theorem dX7_isPossible_62 : decode cX7_isPossible 62 = .ok (.getfield 42, 3) := by decide +kernel
theorem dX7_isPossible_65 : decode cX7_isPossible 65 = .ok (.iload_n 2, 1) := by decide +kernel
theorem dX7_isPossible_66 : decode cX7_isPossible 66 = .ok (.iaload, 1) := by decide +kernel
theorem dX7_isPossible_67 : decode cX7_isPossible 67 = .ok (.invokevirtual 149, 3) := by decide +kernel
theorem dX7_isPossible_70 : decode cX7_isPossible 70 = .ok (.ifCond .eq 21, 3) := by decide +kernel
theorem dX7_isPossible_73 : decode cX7_isPossible 73 = .ok (.aload_n 0, 1) := by decide +kernel
theorem dX7_isPossible_74 : decode cX7_isPossible 74 = .ok (.iload_n 2, 1) := by decide +kernel
theorem dX7_isPossible_75 : decode cX7_isPossible 75 = .ok (.aload_n 0, 1) := by decide +kernel
theorem dX7_isPossible_76 : decode cX7_isPossible 76 = .ok (.getfield 81, 3) := by decide +kernel
theorem dX7_isPossible_79 : decode cX7_isPossible 79 = .ok (.iload_n 1, 1) := by decide +kernel
theorem dX7_isPossible_80 : decode cX7_isPossible 80 = .ok (.iaload, 1) := by decide +kernel
theorem dX7_isPossible_81 : decode cX7_isPossible 81 = .ok (.invokevirtual 165, 3) := by decide +kernel
theorem dX7_isPossible_84 : decode cX7_isPossible 84 = .ok (.ifCond .eq 7, 3) := by decide +kernel
theorem dX7_isPossible_87 : decode cX7_isPossible 87 = .ok (.iconst 1, 1) := by decide +kernel
theorem dX7_isPossible_88 : decode cX7_isPossible 88 = .ok (.goto 4, 3) := by decide +kernel
theorem dX7_isPossible_91 : decode cX7_isPossible 91 = .ok (.iconst 0, 1) := by decide +kernel
theorem dX7_isPossible_92 : decode cX7_isPossible 92 = .ok (.ireturn, 1) := by decide +kernel
theorem dX7_isPossible_93 : decode cX7_isPossible 93 = .ok (.aload_n 0, 1) := by decide +kernel
theorem dX7_isPossible_94 : decode cX7_isPossible 94 = .ok (.getfield 51, 3) := by decide +kernel
theorem dX7_isPossible_97 : decode cX7_isPossible 97 = .ok (.iload_n 2, 1) := by decide +kernel
theorem dX7_isPossible_98 : decode cX7_isPossible 98 = .ok (.iaload, 1) := by decide +kernel
theorem dX7_isPossible_99 : decode cX7_isPossible 99 = .ok (.iconst 1, 1) := by decide +kernel
theorem dX7_isPossible_100 : decode cX7_isPossible 100 = .ok (.if_icmp .ne 37, 3) := by decide +kernel
theorem dX7_isPossible_103 : decode cX7_isPossible 103 = .ok (.aload_n 0, 1) := by decide +kernel
theorem dX7_isPossible_104 : decode cX7_isPossible 104 = .ok (.iload_n 2, 1) := by decide +kernel
theorem dX7_isPossible_105 : decode cX7_isPossible 105 = .ok (.invokevirtual 168, 3) := by decide +kernel
theorem dX7_isPossible_108 : decode cX7_isPossible 108 = .ok (.ifCond .eq 29, 3) := by decide +kernel
theorem dX7_isPossible_111 : decode cX7_isPossible 111 = .ok (.aload_n 0, 1) := by decide +kernel
theorem dX7_isPossible_112 : decode cX7_isPossible 112 = .ok (.iload_n 2, 1) := by decide +kernel
theorem dX7_isPossible_113 : decode cX7_isPossible 113 = .ok (.invokevirtual 146, 3) := by decide +kernel
theorem dX7_isPossible_116 : decode cX7_isPossible 116 = .ok (.ifCond .ne 21, 3) := by decide +kernel
theorem dX7_isPossible_119 : decode cX7_isPossible 119 = .ok (.aload_n 0, 1) := by decide +kernel
theorem dX7_isPossible_120 : decode cX7_isPossible 120 = .ok (.iload_n 2, 1) := by decide +kernel
theorem dX7_isPossible_121 : decode cX7_isPossible 121 = .ok (.aload_n 0, 1) := by decide +kernel
theorem dX7_isPossible_122 : decode cX7_isPossible 122 = .ok (.getfield 81, 3) := by decide +kernel
theorem dX7_isPossible_125 : decode cX7_isPossible 125 = .ok (.iload_n 1, 1) := by decide +kernel
theorem dX7_isPossible_126 : decode cX7_isPossible 126 = .ok (.iaload, 1) := by decide +kernel
theorem dX7_isPossible_127 : decode cX7_isPossible 127 = .ok (.invokevirtual 136, 3) := by decide +kernel
theorem dX7_isPossible_130 : decode cX7_isPossible 130 = .ok (.ifCond .eq 7, 3) := by decide +kernel
theorem dX7_isPossible_133 : decode cX7_isPossible 133 = .ok (.iconst 1, 1) := by decide +kernel
theorem dX7_isPossible_134 : decode cX7_isPossible 134 = .ok (.goto 4, 3) := by decide +kernel
theorem dX7_isPossible_137 : decode cX7_isPossible 137 = .ok (.iconst 0, 1) := by decide +kernel
theorem dX7_isPossible_138 : decode cX7_isPossible 138 = .ok (.ireturn, 1) := by decide +kernel
theorem dX7_isPossible_139 : decode cX7_isPossible 139 = .ok (.aload_n 0, 1) := by decide +kernel
theorem dX7_isPossible_140 : decode cX7_isPossible 140 = .ok (.getfield 51, 3) := by decide +kernel
theorem dX7_isPossible_143 : decode cX7_isPossible 143 = .ok (.iload_n 2, 1) := by decide +kernel
theorem dX7_isPossible_144 : decode cX7_isPossible 144 = .ok (.iaload, 1) := by decide +kernel
theorem dX7_isPossible_145 : decode cX7_isPossible 145 = .ok (.iconst 1, 1) := by decide +kernel
theorem dX7_isPossible_146 : decode cX7_isPossible 146 = .ok (.if_icmp .ne 44, 3) := by decide +kernel
theorem dX7_isPossible_149 : decode cX7_isPossible 149 = .ok (.aload_n 0, 1) := by decide +kernel
theorem dX7_isPossible_150 : decode cX7_isPossible 150 = .ok (.iload_n 2, 1) := by decide +kernel
theorem dX7_isPossible_151 : decode cX7_isPossible 151 = .ok (.invokevirtual 168, 3) := by decide +kernel
theorem dX7_isPossible_154 : decode cX7_isPossible 154 = .ok (.ifCond .eq 36, 3) := by decide +kernel
theorem dX7_isPossible_157 : decode cX7_isPossible 157 = .ok (.aload_n 0, 1) := by decide +kernel
theorem dX7_isPossible_158 : decode cX7_isPossible 158 = .ok (.getfield 81, 3) := by decide +kernel
theorem dX7_isPossible_161 : decode cX7_isPossible 161 = .ok (.iload_n 1, 1) := by decide +kernel
theorem dX7_isPossible_162 : decode cX7_isPossible 162 = .ok (.iaload, 1) := by decide +kernel
theorem dX7_isPossible_163 : decode cX7_isPossible 163 = .ok (.aload_n 0, 1) := by decide +kernel
theorem dX7_isPossible_164 : decode cX7_isPossible 164 = .ok (.getfield 54, 3) := by decide +kernel
theorem dX7_isPossible_167 : decode cX7_isPossible 167 = .ok (.iload_n 2, 1) := by decide +kernel
theorem dX7_isPossible_168 : decode cX7_isPossible 168 = .ok (.iaload, 1) := by decide +kernel
theorem dX7_isPossible_169 : decode cX7_isPossible 169 = .ok (.if_icmp .eq 21, 3) := by decide +kernel
theorem dX7_isPossible_172 : decode cX7_isPossible 172 = .ok (.aload_n 0, 1) := by decide +kernel
theorem dX7_isPossible_173 : decode cX7_isPossible 173 = .ok (.iload_n 2, 1) := by decide +kernel
theorem dX7_isPossible_174 : decode cX7_isPossible 174 = .ok (.aload_n 0, 1) := by decide +kernel
theorem dX7_isPossible_175 : decode cX7_isPossible 175 = .ok (.getfield 81, 3) := by decide +kernel
theorem dX7_isPossible_178 : decode cX7_isPossible 178 = .ok (.iload_n 1, 1) := by decide +kernel
theorem dX7_isPossible_179 : decode cX7_isPossible 179 = .ok (.iaload, 1) := by decide +kernel
theorem dX7_isPossible_180 : decode cX7_isPossible 180 = .ok (.invokevirtual 165, 3) := by decide +kernel
theorem dX7_isPossible_183 : decode cX7_isPossible 183 = .ok (.ifCond .eq 7, 3) := by decide +kernel
theorem dX7_isPossible_186 : decode cX7_isPossible 186 = .ok (.iconst 1, 1) := by decide +kernel
theorem dX7_isPossible_187 : decode cX7_isPossible 187 = .ok (.goto 4, 3) := by decide +kernel
theorem dX7_isPossible_190 : decode cX7_isPossible 190 = .ok (.iconst 0, 1) := by decide +kernel
theorem dX7_isPossible_191 : decode cX7_isPossible 191 = .ok (.ireturn, 1) := by decide +kernel
theorem dX7_isPossible_192 : decode cX7_isPossible 192 = .ok (.aload_n 0, 1) := by decide +kernel
theorem dX7_isPossible_193 : decode cX7_isPossible 193 = .ok (.iload_n 2, 1) := by decide +kernel
theorem dX7_isPossible_194 : decode cX7_isPossible 194 = .ok (.invokevirtual 171, 3) := by decide +kernel
theorem dX7_isPossible_197 : decode cX7_isPossible 197 = .ok (.ireturn, 1) := by decide +kernel
theorem dX7_isPossible_198 : decode cX7_isPossible 198 = .ok (.aload_n 0, 1) := by decide +kernel
theorem dX7_isPossible_199 : decode cX7_isPossible 199 = .ok (.getfield 17, 3) := by decide +kernel
theorem dX7_isPossible_202 : decode cX7_isPossible 202 = .ok (.iload_n 2, 1) := by decide +kernel
theorem dX7_isPossible_203 : decode cX7_isPossible 203 = .ok (.baload, 1) := by decide +kernel
theorem dX7_isPossible_204 : decode cX7_isPossible 204 = .ok (.ireturn, 1) := by decide +kernel
def pX7_isPossible_b91   (v : St) : Option (Int32 × St) := some (0, v)
def pX7_isPossible_b137   (v : St) : Option (Int32 × St) := some (0, v)
def pX7_isPossible_b190   (v : St) : Option (Int32 × St) := some (0, v)
def pX7_isPossible (a1 : Int32) (u : St) : Option (Int32 × St) := if (a1 < 0 ∨ 20 ≤ a1.toNatClampNeg) then none else (if (a1 < 0 ∨ 20 ≤ a1.toNatClampNeg) then none else (if u.1 18 a1.toNatClampNeg = 0 then (bnd (pX7_isOnTop (u.1 19 a1.toNatClampNeg) u) (fun r3 w4 => if r3 = 0 then (pX7_isPossible_b91 w4) else (bnd (pX7_isHeld (u.1 19 a1.toNatClampNeg) w4) (fun r7 w8 => if r7 = 0 then (if (u.1 19 a1.toNatClampNeg < 0 ∨ 60 ≤ (u.1 19 a1.toNatClampNeg).toNatClampNeg) then none else (bnd (pX7_isAhead (w8.1 7 (u.1 19 a1.toNatClampNeg).toNatClampNeg) w8) (fun r12 w13 => if r12 = 0 then (pX7_isPossible_b91 w13) else (if (a1 < 0 ∨ 20 ≤ a1.toNatClampNeg) then none else (bnd (pX7_slotMay (u.1 19 a1.toNatClampNeg) (w13.1 20 a1.toNatClampNeg) w13) (fun r17 w18 => if r17 = 0 then (pX7_isPossible_b91 w18) else (some (1, w18)))))))) else (pX7_isPossible_b91 w8))))) else (if u.1 18 a1.toNatClampNeg = 1 then (if (u.1 19 a1.toNatClampNeg < 0 ∨ 60 ≤ (u.1 19 a1.toNatClampNeg).toNatClampNeg) then none else (if (u.1 10 (u.1 19 a1.toNatClampNeg).toNatClampNeg) = 1 then (bnd (pX7_canTake (u.1 19 a1.toNatClampNeg) u) (fun r24 w25 => if r24 = 0 then (pX7_isPossible_b137 w25) else (bnd (pX7_isHeld (u.1 19 a1.toNatClampNeg) w25) (fun r28 w29 => if r28 = 0 then (if (a1 < 0 ∨ 20 ≤ a1.toNatClampNeg) then none else (bnd (pX7_stackMay (u.1 19 a1.toNatClampNeg) (w29.1 20 a1.toNatClampNeg) w29) (fun r33 w34 => if r33 = 0 then (pX7_isPossible_b137 w34) else (some (1, w34))))) else (pX7_isPossible_b137 w29))))) else (pX7_isPossible_b137 u))) else (if u.1 18 a1.toNatClampNeg = 2 then (if (u.1 19 a1.toNatClampNeg < 0 ∨ 60 ≤ (u.1 19 a1.toNatClampNeg).toNatClampNeg) then none else (if (u.1 10 (u.1 19 a1.toNatClampNeg).toNatClampNeg) = 1 then (bnd (pX7_canTake (u.1 19 a1.toNatClampNeg) u) (fun r40 w41 => if r40 = 0 then (pX7_isPossible_b190 w41) else (if (a1 < 0 ∨ 20 ≤ a1.toNatClampNeg) then none else (if (u.1 19 a1.toNatClampNeg < 0 ∨ 60 ≤ (u.1 19 a1.toNatClampNeg).toNatClampNeg) then none else (if (w41.1 20 a1.toNatClampNeg) = (w41.1 11 (u.1 19 a1.toNatClampNeg).toNatClampNeg) then (pX7_isPossible_b190 w41) else (if (a1 < 0 ∨ 20 ≤ a1.toNatClampNeg) then none else (bnd (pX7_slotMay (u.1 19 a1.toNatClampNeg) (w41.1 20 a1.toNatClampNeg) w41) (fun r48 w49 => if r48 = 0 then (pX7_isPossible_b190 w49) else (some (1, w49)))))))))) else (pX7_isPossible_b190 u))) else (if u.1 18 a1.toNatClampNeg = 3 then (bnd (pX7_canOpen (u.1 19 a1.toNatClampNeg) u) (fun r53 w54 => if r53 = 0 ∨ r53 = 1 then some (r53, w54) else none)) else (if (u.1 19 a1.toNatClampNeg < 0 ∨ 6 ≤ (u.1 19 a1.toNatClampNeg).toNatClampNeg) then none else (if (u.1 2 (u.1 19 a1.toNatClampNeg).toNatClampNeg) = 0 ∨ (u.1 2 (u.1 19 a1.toNatClampNeg).toNatClampNeg) = 1 then some (u.1 2 (u.1 19 a1.toNatClampNeg).toNatClampNeg, u) else none)))))))
set_option maxHeartbeats 4000000 in
set_option maxRecDepth 20000 in
theorem kX7_isPossible {l : Launch} {D : va_G} {Y : Nat → ClassId} {q : Nat → Nat} {a1 : Int32} {u u1 : St} {r : Int32} (hX : pX7_isPossible a1 u = some (r, u1)) : CMi l yX7_isPossible cX7_isPossible 3 (some .boolean) 3 74 D Y (wM Y q u) (wM Y q u1) [.ref (q 0), .int a1] r := by
  refine cm_ofi (by decide) (Nat.le_of_ble_eq_true rfl) rfl (fun p e s m args below meth c A F hr hlk => ?_)
  show GW p l e { frames := 3, cells := 0, slots := 0, locals := 74 } s m args below meth c D A 3 0 0 (MQ below (QI D (wM Y q u1) r A) args s 0 0 A) (wM Y q u) 0 [(0, .ref (q 0)), (1, .int a1)] []
  have b91 : ∀   (v : St), pX7_isPossible_b91  v = some (r, u1) → GW p l e { frames := 3, cells := 0, slots := 0, locals := 74 } s m args below meth c D A 3 0 0 (MQ below (QI D (wM Y q u1) r A) args s 0 0 A) (wM Y q v) 91 [] [] := by
    intro  v hX
    have hX : (some (0, v)) = some (r, u1) := hX
    refine g_iconst (v := 0) F dX7_isPossible_91 (by decide) ?_
    exact g_retC (wf := wM Y q) F hr rfl hlk dX7_isPossible_92 hX
  have b137 : ∀   (v : St), pX7_isPossible_b137  v = some (r, u1) → GW p l e { frames := 3, cells := 0, slots := 0, locals := 74 } s m args below meth c D A 3 0 0 (MQ below (QI D (wM Y q u1) r A) args s 0 0 A) (wM Y q v) 137 [] [] := by
    intro  v hX
    have hX : (some (0, v)) = some (r, u1) := hX
    refine g_iconst (v := 0) F dX7_isPossible_137 (by decide) ?_
    exact g_retC (wf := wM Y q) F hr rfl hlk dX7_isPossible_138 hX
  have b190 : ∀   (v : St), pX7_isPossible_b190  v = some (r, u1) → GW p l e { frames := 3, cells := 0, slots := 0, locals := 74 } s m args below meth c D A 3 0 0 (MQ below (QI D (wM Y q u1) r A) args s 0 0 A) (wM Y q v) 190 [] [] := by
    intro  v hX
    have hX : (some (0, v)) = some (r, u1) := hX
    refine g_iconst (v := 0) F dX7_isPossible_190 (by decide) ?_
    exact g_retC (wf := wM Y q) F hr rfl hlk dX7_isPossible_191 hX
  have hX : (if (a1 < 0 ∨ 20 ≤ a1.toNatClampNeg) then none else (if (a1 < 0 ∨ 20 ≤ a1.toNatClampNeg) then none else (if u.1 18 a1.toNatClampNeg = 0 then (bnd (pX7_isOnTop (u.1 19 a1.toNatClampNeg) u) (fun r3 w4 => if r3 = 0 then (pX7_isPossible_b91 w4) else (bnd (pX7_isHeld (u.1 19 a1.toNatClampNeg) w4) (fun r7 w8 => if r7 = 0 then (if (u.1 19 a1.toNatClampNeg < 0 ∨ 60 ≤ (u.1 19 a1.toNatClampNeg).toNatClampNeg) then none else (bnd (pX7_isAhead (w8.1 7 (u.1 19 a1.toNatClampNeg).toNatClampNeg) w8) (fun r12 w13 => if r12 = 0 then (pX7_isPossible_b91 w13) else (if (a1 < 0 ∨ 20 ≤ a1.toNatClampNeg) then none else (bnd (pX7_slotMay (u.1 19 a1.toNatClampNeg) (w13.1 20 a1.toNatClampNeg) w13) (fun r17 w18 => if r17 = 0 then (pX7_isPossible_b91 w18) else (some (1, w18)))))))) else (pX7_isPossible_b91 w8))))) else (if u.1 18 a1.toNatClampNeg = 1 then (if (u.1 19 a1.toNatClampNeg < 0 ∨ 60 ≤ (u.1 19 a1.toNatClampNeg).toNatClampNeg) then none else (if (u.1 10 (u.1 19 a1.toNatClampNeg).toNatClampNeg) = 1 then (bnd (pX7_canTake (u.1 19 a1.toNatClampNeg) u) (fun r24 w25 => if r24 = 0 then (pX7_isPossible_b137 w25) else (bnd (pX7_isHeld (u.1 19 a1.toNatClampNeg) w25) (fun r28 w29 => if r28 = 0 then (if (a1 < 0 ∨ 20 ≤ a1.toNatClampNeg) then none else (bnd (pX7_stackMay (u.1 19 a1.toNatClampNeg) (w29.1 20 a1.toNatClampNeg) w29) (fun r33 w34 => if r33 = 0 then (pX7_isPossible_b137 w34) else (some (1, w34))))) else (pX7_isPossible_b137 w29))))) else (pX7_isPossible_b137 u))) else (if u.1 18 a1.toNatClampNeg = 2 then (if (u.1 19 a1.toNatClampNeg < 0 ∨ 60 ≤ (u.1 19 a1.toNatClampNeg).toNatClampNeg) then none else (if (u.1 10 (u.1 19 a1.toNatClampNeg).toNatClampNeg) = 1 then (bnd (pX7_canTake (u.1 19 a1.toNatClampNeg) u) (fun r40 w41 => if r40 = 0 then (pX7_isPossible_b190 w41) else (if (a1 < 0 ∨ 20 ≤ a1.toNatClampNeg) then none else (if (u.1 19 a1.toNatClampNeg < 0 ∨ 60 ≤ (u.1 19 a1.toNatClampNeg).toNatClampNeg) then none else (if (w41.1 20 a1.toNatClampNeg) = (w41.1 11 (u.1 19 a1.toNatClampNeg).toNatClampNeg) then (pX7_isPossible_b190 w41) else (if (a1 < 0 ∨ 20 ≤ a1.toNatClampNeg) then none else (bnd (pX7_slotMay (u.1 19 a1.toNatClampNeg) (w41.1 20 a1.toNatClampNeg) w41) (fun r48 w49 => if r48 = 0 then (pX7_isPossible_b190 w49) else (some (1, w49)))))))))) else (pX7_isPossible_b190 u))) else (if u.1 18 a1.toNatClampNeg = 3 then (bnd (pX7_canOpen (u.1 19 a1.toNatClampNeg) u) (fun r53 w54 => if r53 = 0 ∨ r53 = 1 then some (r53, w54) else none)) else (if (u.1 19 a1.toNatClampNeg < 0 ∨ 6 ≤ (u.1 19 a1.toNatClampNeg).toNatClampNeg) then none else (if (u.1 2 (u.1 19 a1.toNatClampNeg).toNatClampNeg) = 0 ∨ (u.1 2 (u.1 19 a1.toNatClampNeg).toNatClampNeg) = 1 then some (u.1 2 (u.1 19 a1.toNatClampNeg).toNatClampNeg, u) else none)))))))) = some (r, u1) := hX
  refine g_aload_n F dX7_isPossible_0 0 rfl rfl ?_
  refine G_X7_78 F dX7_isPossible_1 ?_
  refine g_iload_n F dX7_isPossible_4 1 rfl rfl ?_
  obtain ⟨hI1, hX⟩ := inb hX
  refine AL_19 F hI1 dX7_isPossible_5 ?_
  refine g_istore_n (lv' := [(2, .int (u.1 19 a1.toNatClampNeg)), (0, .ref (q 0)), (1, .int a1)]) F dX7_isPossible_6 rfl (by decide) rfl ?_
  refine g_aload_n F dX7_isPossible_7 1 rfl rfl ?_
  refine G_X7_75 F dX7_isPossible_8 ?_
  refine g_iload_n F dX7_isPossible_11 2 rfl rfl ?_
  obtain ⟨hI2, hX⟩ := inb hX
  refine AL_18 F hI2 dX7_isPossible_12 ?_
  by_cases c21 : u.1 18 a1.toNatClampNeg = 0
  · have hX := if_t hX c21
    refine g_tabIn (tgt := 44) F dX7_isPossible_13 (by rw [c21]; decide) (by rw [c21]; decide) (by rw [c21]; rfl) (by decide) ?_
    refine g_aload_n F dX7_isPossible_44 1 rfl rfl ?_
    refine g_iload_n F dX7_isPossible_45 0 rfl rfl ?_
    obtain ⟨r3, w4, hc5, hX⟩ := bnd_s hX
    refine callX7_isOnTop F hc5 ml_X7_162 ⟨Nat.le_of_ble_eq_true rfl, Nat.le_of_ble_eq_true rfl⟩ (Nat.le_of_ble_eq_true rfl) dX7_isPossible_46 ?_
    refine g_if_eq (tgt := 91) F dX7_isPossible_49 (by decide) (fun c6 => ?_) (fun c6 => ?_)
    · have hX := if_t hX c6
      refine g_sub [] rfl ?_
      exact b91 w4 hX
    · have hX := if_f hX c6
      refine g_aload_n F dX7_isPossible_52 1 rfl rfl ?_
      refine g_iload_n F dX7_isPossible_53 0 rfl rfl ?_
      obtain ⟨r7, w8, hc9, hX⟩ := bnd_s hX
      refine callX7_isHeld F hc9 ml_X7_146 ⟨Nat.le_of_ble_eq_true rfl, Nat.le_of_ble_eq_true rfl⟩ (Nat.le_of_ble_eq_true rfl) dX7_isPossible_54 ?_
      refine g_if_ne (tgt := 91) F dX7_isPossible_57 (by decide) (fun c10 => ?_) (fun c10 => ?_)
      · have hX := if_f hX c10
        refine g_sub [] rfl ?_
        exact b91 w8 hX
      · have hX := if_t hX c10
        refine g_aload_n F dX7_isPossible_60 1 rfl rfl ?_
        refine g_aload_n F dX7_isPossible_61 1 rfl rfl ?_
        refine G_X7_42 F dX7_isPossible_62 ?_
        refine g_iload_n F dX7_isPossible_65 0 rfl rfl ?_
        obtain ⟨hI11, hX⟩ := inb hX
        refine AL_7 F hI11 dX7_isPossible_66 ?_
        obtain ⟨r12, w13, hc14, hX⟩ := bnd_s hX
        refine callX7_isAhead F hc14 ml_X7_149 ⟨Nat.le_of_ble_eq_true rfl, Nat.le_of_ble_eq_true rfl⟩ (Nat.le_of_ble_eq_true rfl) dX7_isPossible_67 ?_
        refine g_if_eq (tgt := 91) F dX7_isPossible_70 (by decide) (fun c15 => ?_) (fun c15 => ?_)
        · have hX := if_t hX c15
          refine g_sub [] rfl ?_
          exact b91 w13 hX
        · have hX := if_f hX c15
          refine g_aload_n F dX7_isPossible_73 1 rfl rfl ?_
          refine g_iload_n F dX7_isPossible_74 0 rfl rfl ?_
          refine g_aload_n F dX7_isPossible_75 1 rfl rfl ?_
          refine G_X7_81 F dX7_isPossible_76 ?_
          refine g_iload_n F dX7_isPossible_79 2 rfl rfl ?_
          obtain ⟨hI16, hX⟩ := inb hX
          refine AL_20 F hI16 dX7_isPossible_80 ?_
          obtain ⟨r17, w18, hc19, hX⟩ := bnd_s hX
          refine callX7_slotMay F hc19 ml_X7_165 ⟨Nat.le_of_ble_eq_true rfl, Nat.le_of_ble_eq_true rfl⟩ (Nat.le_of_ble_eq_true rfl) dX7_isPossible_81 ?_
          refine g_if_eq (tgt := 91) F dX7_isPossible_84 (by decide) (fun c20 => ?_) (fun c20 => ?_)
          · have hX := if_t hX c20
            refine g_sub [] rfl ?_
            exact b91 w18 hX
          · have hX := if_f hX c20
            refine g_iconst (v := 1) F dX7_isPossible_87 (by decide) ?_
            refine g_goto (tgt := 92) F dX7_isPossible_88 (by decide) ?_
            exact g_retC (wf := wM Y q) F hr rfl hlk dX7_isPossible_92 hX
  have hX := if_f hX c21
  by_cases c37 : u.1 18 a1.toNatClampNeg = 1
  · have hX := if_t hX c37
    refine g_tabIn (tgt := 93) F dX7_isPossible_13 (by rw [c37]; decide) (by rw [c37]; decide) (by rw [c37]; rfl) (by decide) ?_
    refine g_aload_n F dX7_isPossible_93 1 rfl rfl ?_
    refine G_X7_51 F dX7_isPossible_94 ?_
    refine g_iload_n F dX7_isPossible_97 0 rfl rfl ?_
    obtain ⟨hI22, hX⟩ := inb hX
    refine AL_10 F hI22 dX7_isPossible_98 ?_
    refine g_iconst (v := 1) F dX7_isPossible_99 (by decide) ?_
    refine g_icmp_ne (tgt := 137) F dX7_isPossible_100 (by decide) (fun c23 => ?_) (fun c23 => ?_)
    · have hX := if_f hX c23
      refine g_sub [] rfl ?_
      exact b137 u hX
    · have hX := if_t hX c23
      refine g_aload_n F dX7_isPossible_103 1 rfl rfl ?_
      refine g_iload_n F dX7_isPossible_104 0 rfl rfl ?_
      obtain ⟨r24, w25, hc26, hX⟩ := bnd_s hX
      refine callX7_canTake F hc26 ml_X7_168 ⟨Nat.le_of_ble_eq_true rfl, Nat.le_of_ble_eq_true rfl⟩ (Nat.le_of_ble_eq_true rfl) dX7_isPossible_105 ?_
      refine g_if_eq (tgt := 137) F dX7_isPossible_108 (by decide) (fun c27 => ?_) (fun c27 => ?_)
      · have hX := if_t hX c27
        refine g_sub [] rfl ?_
        exact b137 w25 hX
      · have hX := if_f hX c27
        refine g_aload_n F dX7_isPossible_111 1 rfl rfl ?_
        refine g_iload_n F dX7_isPossible_112 0 rfl rfl ?_
        obtain ⟨r28, w29, hc30, hX⟩ := bnd_s hX
        refine callX7_isHeld F hc30 ml_X7_146 ⟨Nat.le_of_ble_eq_true rfl, Nat.le_of_ble_eq_true rfl⟩ (Nat.le_of_ble_eq_true rfl) dX7_isPossible_113 ?_
        refine g_if_ne (tgt := 137) F dX7_isPossible_116 (by decide) (fun c31 => ?_) (fun c31 => ?_)
        · have hX := if_f hX c31
          refine g_sub [] rfl ?_
          exact b137 w29 hX
        · have hX := if_t hX c31
          refine g_aload_n F dX7_isPossible_119 1 rfl rfl ?_
          refine g_iload_n F dX7_isPossible_120 0 rfl rfl ?_
          refine g_aload_n F dX7_isPossible_121 1 rfl rfl ?_
          refine G_X7_81 F dX7_isPossible_122 ?_
          refine g_iload_n F dX7_isPossible_125 2 rfl rfl ?_
          obtain ⟨hI32, hX⟩ := inb hX
          refine AL_20 F hI32 dX7_isPossible_126 ?_
          obtain ⟨r33, w34, hc35, hX⟩ := bnd_s hX
          refine callX7_stackMay F hc35 ml_X7_136 ⟨Nat.le_of_ble_eq_true rfl, Nat.le_of_ble_eq_true rfl⟩ (Nat.le_of_ble_eq_true rfl) dX7_isPossible_127 ?_
          refine g_if_eq (tgt := 137) F dX7_isPossible_130 (by decide) (fun c36 => ?_) (fun c36 => ?_)
          · have hX := if_t hX c36
            refine g_sub [] rfl ?_
            exact b137 w34 hX
          · have hX := if_f hX c36
            refine g_iconst (v := 1) F dX7_isPossible_133 (by decide) ?_
            refine g_goto (tgt := 138) F dX7_isPossible_134 (by decide) ?_
            exact g_retC (wf := wM Y q) F hr rfl hlk dX7_isPossible_138 hX
  have hX := if_f hX c37
  by_cases c52 : u.1 18 a1.toNatClampNeg = 2
  · have hX := if_t hX c52
    refine g_tabIn (tgt := 139) F dX7_isPossible_13 (by rw [c52]; decide) (by rw [c52]; decide) (by rw [c52]; rfl) (by decide) ?_
    refine g_aload_n F dX7_isPossible_139 1 rfl rfl ?_
    refine G_X7_51 F dX7_isPossible_140 ?_
    refine g_iload_n F dX7_isPossible_143 0 rfl rfl ?_
    obtain ⟨hI38, hX⟩ := inb hX
    refine AL_10 F hI38 dX7_isPossible_144 ?_
    refine g_iconst (v := 1) F dX7_isPossible_145 (by decide) ?_
    refine g_icmp_ne (tgt := 190) F dX7_isPossible_146 (by decide) (fun c39 => ?_) (fun c39 => ?_)
    · have hX := if_f hX c39
      refine g_sub [] rfl ?_
      exact b190 u hX
    · have hX := if_t hX c39
      refine g_aload_n F dX7_isPossible_149 1 rfl rfl ?_
      refine g_iload_n F dX7_isPossible_150 0 rfl rfl ?_
      obtain ⟨r40, w41, hc42, hX⟩ := bnd_s hX
      refine callX7_canTake F hc42 ml_X7_168 ⟨Nat.le_of_ble_eq_true rfl, Nat.le_of_ble_eq_true rfl⟩ (Nat.le_of_ble_eq_true rfl) dX7_isPossible_151 ?_
      refine g_if_eq (tgt := 190) F dX7_isPossible_154 (by decide) (fun c43 => ?_) (fun c43 => ?_)
      · have hX := if_t hX c43
        refine g_sub [] rfl ?_
        exact b190 w41 hX
      · have hX := if_f hX c43
        refine g_aload_n F dX7_isPossible_157 1 rfl rfl ?_
        refine G_X7_81 F dX7_isPossible_158 ?_
        refine g_iload_n F dX7_isPossible_161 2 rfl rfl ?_
        obtain ⟨hI44, hX⟩ := inb hX
        refine AL_20 F hI44 dX7_isPossible_162 ?_
        refine g_aload_n F dX7_isPossible_163 1 rfl rfl ?_
        refine G_X7_54 F dX7_isPossible_164 ?_
        refine g_iload_n F dX7_isPossible_167 0 rfl rfl ?_
        obtain ⟨hI45, hX⟩ := inb hX
        refine AL_11 F hI45 dX7_isPossible_168 ?_
        refine g_icmp_eq (tgt := 190) F dX7_isPossible_169 (by decide) (fun c46 => ?_) (fun c46 => ?_)
        · have hX := if_t hX c46
          refine g_sub [] rfl ?_
          exact b190 w41 hX
        · have hX := if_f hX c46
          refine g_aload_n F dX7_isPossible_172 1 rfl rfl ?_
          refine g_iload_n F dX7_isPossible_173 0 rfl rfl ?_
          refine g_aload_n F dX7_isPossible_174 1 rfl rfl ?_
          refine G_X7_81 F dX7_isPossible_175 ?_
          refine g_iload_n F dX7_isPossible_178 2 rfl rfl ?_
          obtain ⟨hI47, hX⟩ := inb hX
          refine AL_20 F hI47 dX7_isPossible_179 ?_
          obtain ⟨r48, w49, hc50, hX⟩ := bnd_s hX
          refine callX7_slotMay F hc50 ml_X7_165 ⟨Nat.le_of_ble_eq_true rfl, Nat.le_of_ble_eq_true rfl⟩ (Nat.le_of_ble_eq_true rfl) dX7_isPossible_180 ?_
          refine g_if_eq (tgt := 190) F dX7_isPossible_183 (by decide) (fun c51 => ?_) (fun c51 => ?_)
          · have hX := if_t hX c51
            refine g_sub [] rfl ?_
            exact b190 w49 hX
          · have hX := if_f hX c51
            refine g_iconst (v := 1) F dX7_isPossible_186 (by decide) ?_
            refine g_goto (tgt := 191) F dX7_isPossible_187 (by decide) ?_
            exact g_retC (wf := wM Y q) F hr rfl hlk dX7_isPossible_191 hX
  have hX := if_f hX c52
  by_cases c56 : u.1 18 a1.toNatClampNeg = 3
  · have hX := if_t hX c56
    refine g_tabIn (tgt := 192) F dX7_isPossible_13 (by rw [c56]; decide) (by rw [c56]; decide) (by rw [c56]; rfl) (by decide) ?_
    refine g_aload_n F dX7_isPossible_192 1 rfl rfl ?_
    refine g_iload_n F dX7_isPossible_193 0 rfl rfl ?_
    obtain ⟨r53, w54, hc55, hX⟩ := bnd_s hX
    refine callX7_canOpen F hc55 ml_X7_171 ⟨Nat.le_of_ble_eq_true rfl, Nat.le_of_ble_eq_true rfl⟩ (Nat.le_of_ble_eq_true rfl) dX7_isPossible_194 ?_
    exact g_retCb (wf := wM Y q) F hr hlk dX7_isPossible_197 hX
  have hX := if_f hX c56
  refine g_tabOut (tgt := 198) F dX7_isPossible_13 (tab_out4 c21 c37 c52 c56) (by decide) ?_
  refine g_aload_n F dX7_isPossible_198 1 rfl rfl ?_
  refine G_X7_17 F dX7_isPossible_199 ?_
  refine g_iload_n F dX7_isPossible_202 0 rfl rfl ?_
  obtain ⟨hI57, hX⟩ := inb hX
  refine AL_2 F hI57 dX7_isPossible_203 ?_
  exact g_retCb (wf := wM Y q) F hr hlk dX7_isPossible_204 hX
theorem callX7_isPossible {p : Program} {l : Launch} {e : Env} {R : Room} {s : State} {m : MethodId} {args : Array Value} {below : List Frame} {meth : Method} {c : Code} {D : va_G} {Y : Nat → ClassId} {A : Nat → Prop} {cc : ByteArray} {nL : Nat} {own : String} {Q : State → Prop} {pc : Nat} {lv : List (Nat × Value)} {rest : List Value} {q : Nat → Nat} {a1 : Int32} {u u1 : St} {r : Int32} (F : Fx p s m args c D Y A cc nL own) (hX : pX7_isPossible a1 u = some (r, u1)) {index : Nat} (hml : Cond.methodLink own index yX7_isPossible ∈ TBL) (hR : 3 + 1 ≤ R.frames ∧ 8 + (3 + 11) + 74 ≤ R.locals) (hcat : (rest.map fun v => v.category).sum ≤ 8) (hd : decode cc pc = .ok (.invokevirtual index, 3)) (kk : GW p l e R s m args below meth c D A nL 0 0 Q (wM Y q u1) (pc + 3) lv (.int r :: rest)) : GW p l e R s m args below meth c D A nL 0 0 Q (wM Y q u) pc lv (.int a1 :: .ref (q 0) :: rest) := g_callVi (ws := wM Y q u) (n := 1) (q0 := 0) (As := [.int a1]) F [] [] (kX7_isPossible hX) (List.append_nil _).symm (List.append_nil _) (by unfold mOK; decide +kernel) rfl rfl cd_yX7_isPossible hml im_yX7_isPossible se_yX7_isPossible in_X7 rfl rfl hR ⟨Nat.zero_le _, Nat.zero_le _⟩ rfl hcat hd kk
theorem dX7_isWithin_0 : decode cX7_isWithin 0 = .ok (.iload_n 1, 1) := by decide +kernel
theorem dX7_isWithin_1 : decode cX7_isWithin 1 = .ok (.aload_n 0, 1) := by decide +kernel
theorem dX7_isWithin_2 : decode cX7_isWithin 2 = .ok (.getfield 66, 3) := by decide +kernel
theorem dX7_isWithin_5 : decode cX7_isWithin 5 = .ok (.iload_n 2, 1) := by decide +kernel
theorem dX7_isWithin_6 : decode cX7_isWithin 6 = .ok (.iaload, 1) := by decide +kernel
theorem dX7_isWithin_7 : decode cX7_isWithin 7 = .ok (.aload_n 0, 1) := by decide +kernel
theorem dX7_isWithin_8 : decode cX7_isWithin 8 = .ok (.getfield 69, 3) := by decide +kernel
theorem dX7_isWithin_11 : decode cX7_isWithin 11 = .ok (.iload_n 2, 1) := by decide +kernel
theorem dX7_isWithin_12 : decode cX7_isWithin 12 = .ok (.iaload, 1) := by decide +kernel
theorem dX7_isWithin_13 : decode cX7_isWithin 13 = .ok (.invokestatic 90, 3) := by decide +kernel
theorem dX7_isWithin_16 : decode cX7_isWithin 16 = .ok (.ireturn, 1) := by decide +kernel
def pX7_isWithin (a1 : Int32) (a2 : Int32) (u : St) : Option (Int32 × St) := if (a2 < 0 ∨ 2 ≤ a2.toNatClampNeg) then none else (if (a2 < 0 ∨ 2 ≤ a2.toNatClampNeg) then none else (if (pX7_in a1 (u.1 15 a2.toNatClampNeg) (u.1 16 a2.toNatClampNeg)) = 0 ∨ (pX7_in a1 (u.1 15 a2.toNatClampNeg) (u.1 16 a2.toNatClampNeg)) = 1 then some (pX7_in a1 (u.1 15 a2.toNatClampNeg) (u.1 16 a2.toNatClampNeg), u) else none))
set_option maxHeartbeats 4000000 in
set_option maxRecDepth 20000 in
theorem kX7_isWithin {l : Launch} {D : va_G} {Y : Nat → ClassId} {q : Nat → Nat} {a1 a2 : Int32} {u u1 : St} {r : Int32} (hX : pX7_isWithin a1 a2 u = some (r, u1)) : CMi l yX7_isWithin cX7_isWithin 3 (some .boolean) 1 22 D Y (wM Y q u) (wM Y q u1) [.ref (q 0), .int a1, .int a2] r := by
  refine cm_ofi (by decide) (Nat.le_of_ble_eq_true rfl) rfl (fun p e s m args below meth c A F hr hlk => ?_)
  show GW p l e { frames := 1, cells := 0, slots := 0, locals := 22 } s m args below meth c D A 3 0 0 (MQ below (QI D (wM Y q u1) r A) args s 0 0 A) (wM Y q u) 0 [(0, .ref (q 0)), (1, .int a1), (2, .int a2)] []
  have hX : (if (a2 < 0 ∨ 2 ≤ a2.toNatClampNeg) then none else (if (a2 < 0 ∨ 2 ≤ a2.toNatClampNeg) then none else (if (pX7_in a1 (u.1 15 a2.toNatClampNeg) (u.1 16 a2.toNatClampNeg)) = 0 ∨ (pX7_in a1 (u.1 15 a2.toNatClampNeg) (u.1 16 a2.toNatClampNeg)) = 1 then some (pX7_in a1 (u.1 15 a2.toNatClampNeg) (u.1 16 a2.toNatClampNeg), u) else none))) = some (r, u1) := hX
  refine g_iload_n F dX7_isWithin_0 1 rfl rfl ?_
  refine g_aload_n F dX7_isWithin_1 0 rfl rfl ?_
  refine G_X7_66 F dX7_isWithin_2 ?_
  refine g_iload_n F dX7_isWithin_5 2 rfl rfl ?_
  obtain ⟨hI1, hX⟩ := inb hX
  refine AL_15 F hI1 dX7_isWithin_6 ?_
  refine g_aload_n F dX7_isWithin_7 0 rfl rfl ?_
  refine G_X7_69 F dX7_isWithin_8 ?_
  refine g_iload_n F dX7_isWithin_11 2 rfl rfl ?_
  obtain ⟨hI2, hX⟩ := inb hX
  refine AL_16 F hI2 dX7_isWithin_12 ?_
  refine callX7_in F ml_X7_90 ⟨Nat.le_of_ble_eq_true rfl, Nat.le_of_ble_eq_true rfl⟩ (Nat.le_of_ble_eq_true rfl) dX7_isWithin_13 ?_
  exact g_retCb (wf := wM Y q) F hr hlk dX7_isWithin_16 hX
theorem callX7_isWithin {p : Program} {l : Launch} {e : Env} {R : Room} {s : State} {m : MethodId} {args : Array Value} {below : List Frame} {meth : Method} {c : Code} {D : va_G} {Y : Nat → ClassId} {A : Nat → Prop} {cc : ByteArray} {nL : Nat} {own : String} {Q : State → Prop} {pc : Nat} {lv : List (Nat × Value)} {rest : List Value} {q : Nat → Nat} {a1 a2 : Int32} {u u1 : St} {r : Int32} (F : Fx p s m args c D Y A cc nL own) (hX : pX7_isWithin a1 a2 u = some (r, u1)) {index : Nat} (hml : Cond.methodLink own index yX7_isWithin ∈ TBL) (hR : 1 + 1 ≤ R.frames ∧ 8 + (3 + 11) + 22 ≤ R.locals) (hcat : (rest.map fun v => v.category).sum ≤ 8) (hd : decode cc pc = .ok (.invokevirtual index, 3)) (kk : GW p l e R s m args below meth c D A nL 0 0 Q (wM Y q u1) (pc + 3) lv (.int r :: rest)) : GW p l e R s m args below meth c D A nL 0 0 Q (wM Y q u) pc lv (.int a2 :: .int a1 :: .ref (q 0) :: rest) := g_callVi (ws := wM Y q u) (n := 2) (q0 := 0) (As := [.int a1, .int a2]) F [] [] (kX7_isWithin hX) (List.append_nil _).symm (List.append_nil _) (by unfold mOK; decide +kernel) rfl rfl cd_yX7_isWithin hml im_yX7_isWithin se_yX7_isWithin in_X7 rfl rfl hR ⟨Nat.zero_le _, Nat.zero_le _⟩ rfl hcat hd kk
theorem dX7_reaches_0 : decode cX7_reaches 0 = .ok (.aload_n 0, 1) := by decide +kernel
theorem dX7_reaches_1 : decode cX7_reaches 1 = .ok (.getfield 78, 3) := by decide +kernel
theorem dX7_reaches_4 : decode cX7_reaches 4 = .ok (.iload_n 1, 1) := by decide +kernel
theorem dX7_reaches_5 : decode cX7_reaches 5 = .ok (.iaload, 1) := by decide +kernel
theorem dX7_reaches_6 : decode cX7_reaches 6 = .ok (.istore_n 3, 1) := by decide +kernel
theorem dX7_reaches_7 : decode cX7_reaches 7 = .ok (.aload_n 0, 1) := by decide +kernel
theorem dX7_reaches_8 : decode cX7_reaches 8 = .ok (.getfield 75, 3) := by decide +kernel
theorem dX7_reaches_11 : decode cX7_reaches 11 = .ok (.iload_n 1, 1) := by decide +kernel
theorem dX7_reaches_12 : decode cX7_reaches 12 = .ok (.iaload, 1) := by decide +kernel
theorem dX7_reaches_13 : decode cX7_reaches 13 = .ok (.iconst 3, 1) := by decide +kernel
theorem dX7_reaches_14 : decode cX7_reaches 14 = .ok (.if_icmp .lt 10, 3) := by decide +kernel
theorem dX7_reaches_17 : decode cX7_reaches 17 = .ok (.aload_n 0, 1) := by decide +kernel
theorem dX7_reaches_18 : decode cX7_reaches 18 = .ok (.iload_n 3, 1) := by decide +kernel
theorem dX7_reaches_19 : decode cX7_reaches 19 = .ok (.iload_n 2, 1) := by decide +kernel
theorem dX7_reaches_20 : decode cX7_reaches 20 = .ok (.invokevirtual 174, 3) := by decide +kernel
theorem dX7_reaches_23 : decode cX7_reaches 23 = .ok (.ireturn, 1) := by decide +kernel
theorem dX7_reaches_24 : decode cX7_reaches 24 = .ok (.aload_n 0, 1) := by decide +kernel
theorem dX7_reaches_25 : decode cX7_reaches 25 = .ok (.getfield 75, 3) := by decide +kernel
theorem dX7_reaches_28 : decode cX7_reaches 28 = .ok (.iload_n 1, 1) := by decide +kernel
theorem dX7_reaches_29 : decode cX7_reaches 29 = .ok (.iaload, 1) := by decide +kernel
theorem dX7_reaches_30 : decode cX7_reaches 30 = .ok (.ifCond .eq 30, 3) := by decide +kernel
theorem dX7_reaches_33 : decode cX7_reaches 33 = .ok (.aload_n 0, 1) := by decide +kernel
theorem dX7_reaches_34 : decode cX7_reaches 34 = .ok (.getfield 51, 3) := by decide +kernel
theorem dX7_reaches_37 : decode cX7_reaches 37 = .ok (.iload_n 3, 1) := by decide +kernel
theorem dX7_reaches_38 : decode cX7_reaches 38 = .ok (.iaload, 1) := by decide +kernel
theorem dX7_reaches_39 : decode cX7_reaches 39 = .ok (.iconst 1, 1) := by decide +kernel
theorem dX7_reaches_40 : decode cX7_reaches 40 = .ok (.if_icmp .ne 24, 3) := by decide +kernel
theorem dX7_reaches_43 : decode cX7_reaches 43 = .ok (.aload_n 0, 1) := by decide +kernel
theorem dX7_reaches_44 : decode cX7_reaches 44 = .ok (.aload_n 0, 1) := by decide +kernel
theorem dX7_reaches_45 : decode cX7_reaches 45 = .ok (.getfield 54, 3) := by decide +kernel
theorem dX7_reaches_48 : decode cX7_reaches 48 = .ok (.iload_n 3, 1) := by decide +kernel
theorem dX7_reaches_49 : decode cX7_reaches 49 = .ok (.iaload, 1) := by decide +kernel
theorem dX7_reaches_50 : decode cX7_reaches 50 = .ok (.bipush 12, 2) := by decide +kernel
theorem dX7_reaches_52 : decode cX7_reaches 52 = .ok (.idiv, 1) := by decide +kernel
theorem dX7_reaches_53 : decode cX7_reaches 53 = .ok (.iload_n 2, 1) := by decide +kernel
theorem dX7_reaches_54 : decode cX7_reaches 54 = .ok (.invokevirtual 174, 3) := by decide +kernel
theorem dX7_reaches_57 : decode cX7_reaches 57 = .ok (.ifCond .eq 7, 3) := by decide +kernel
theorem dX7_reaches_60 : decode cX7_reaches 60 = .ok (.iconst 1, 1) := by decide +kernel
theorem dX7_reaches_61 : decode cX7_reaches 61 = .ok (.goto 4, 3) := by decide +kernel
theorem dX7_reaches_64 : decode cX7_reaches 64 = .ok (.iconst 0, 1) := by decide +kernel
theorem dX7_reaches_65 : decode cX7_reaches 65 = .ok (.istore 4, 2) := by decide +kernel
theorem dX7_reaches_67 : decode cX7_reaches 67 = .ok (.iload 4, 2) := by decide +kernel
theorem dX7_reaches_69 : decode cX7_reaches 69 = .ok (.ifCond .eq 34, 3) := by decide +kernel
theorem dX7_reaches_72 : decode cX7_reaches 72 = .ok (.aload_n 0, 1) := by decide +kernel
theorem dX7_reaches_73 : decode cX7_reaches 73 = .ok (.getfield 75, 3) := by decide +kernel
theorem dX7_reaches_76 : decode cX7_reaches 76 = .ok (.iload_n 1, 1) := by decide +kernel
theorem dX7_reaches_77 : decode cX7_reaches 77 = .ok (.iaload, 1) := by decide +kernel
theorem dX7_reaches_78 : decode cX7_reaches 78 = .ok (.iconst 1, 1) := by decide +kernel
theorem dX7_reaches_79 : decode cX7_reaches 79 = .ok (.if_icmp .eq 20, 3) := by decide +kernel
theorem dX7_reaches_82 : decode cX7_reaches 82 = .ok (.aload_n 0, 1) := by decide +kernel
theorem dX7_reaches_83 : decode cX7_reaches 83 = .ok (.aload_n 0, 1) := by decide +kernel
theorem dX7_reaches_84 : decode cX7_reaches 84 = .ok (.getfield 81, 3) := by decide +kernel
theorem dX7_reaches_87 : decode cX7_reaches 87 = .ok (.iload_n 1, 1) := by decide +kernel
theorem dX7_reaches_88 : decode cX7_reaches 88 = .ok (.iaload, 1) := by decide +kernel
theorem dX7_reaches_89 : decode cX7_reaches 89 = .ok (.bipush 12, 2) := by decide +kernel
theorem dX7_reaches_91 : decode cX7_reaches 91 = .ok (.idiv, 1) := by decide +kernel
theorem dX7_reaches_92 : decode cX7_reaches 92 = .ok (.iload_n 2, 1) := by decide +kernel
theorem dX7_reaches_93 : decode cX7_reaches 93 = .ok (.invokevirtual 174, 3) := by decide +kernel
theorem dX7_reaches_96 : decode cX7_reaches 96 = .ok (.ifCond .eq 7, 3) := by decide +kernel
theorem dX7_reaches_99 : decode cX7_reaches 99 = .ok (.iconst 1, 1) := by decide +kernel
theorem dX7_reaches_100 : decode cX7_reaches 100 = .ok (.goto 4, 3) := by decide +kernel
theorem dX7_reaches_103 : decode cX7_reaches 103 = .ok (.iconst 0, 1) := by decide +kernel
theorem dX7_reaches_104 : decode cX7_reaches 104 = .ok (.ireturn, 1) := by decide +kernel
def pX7_reaches_b103   (v : St) : Option (Int32 × St) := some (0, v)
def pX7_reaches_b99   (v : St) : Option (Int32 × St) := some (1, v)
def pX7_reaches_b65  (x1 : Int32) (x2 : Int32) (y0 : Int32) (v : St) : Option (Int32 × St) := if y0 = 0 then (pX7_reaches_b103 v) else (if (x1 < 0 ∨ 20 ≤ x1.toNatClampNeg) then none else (if (v.1 18 x1.toNatClampNeg) = 1 then (pX7_reaches_b99 v) else (if (x1 < 0 ∨ 20 ≤ x1.toNatClampNeg) then none else (bnd (pX7_isWithin ((v.1 20 x1.toNatClampNeg) / 12) x2 v) (fun r10 w11 => if r10 = 0 then (pX7_reaches_b103 w11) else (pX7_reaches_b99 w11))))))
def pX7_reaches_b60  (x1 : Int32) (x2 : Int32) (v : St) : Option (Int32 × St) := pX7_reaches_b65 x1 x2 1 v
def pX7_reaches_b64  (x1 : Int32) (x2 : Int32) (v : St) : Option (Int32 × St) := pX7_reaches_b65 x1 x2 0 v
def pX7_reaches (a1 : Int32) (a2 : Int32) (u : St) : Option (Int32 × St) := if (a1 < 0 ∨ 20 ≤ a1.toNatClampNeg) then none else (if (a1 < 0 ∨ 20 ≤ a1.toNatClampNeg) then none else (if (u.1 18 a1.toNatClampNeg) < 3 then (if (a1 < 0 ∨ 20 ≤ a1.toNatClampNeg) then none else (if (u.1 18 a1.toNatClampNeg) = 0 then (pX7_reaches_b60 a1 a2 u) else (if (u.1 19 a1.toNatClampNeg < 0 ∨ 60 ≤ (u.1 19 a1.toNatClampNeg).toNatClampNeg) then none else (if (u.1 10 (u.1 19 a1.toNatClampNeg).toNatClampNeg) = 1 then (if (u.1 19 a1.toNatClampNeg < 0 ∨ 60 ≤ (u.1 19 a1.toNatClampNeg).toNatClampNeg) then none else (bnd (pX7_isWithin ((u.1 11 (u.1 19 a1.toNatClampNeg).toNatClampNeg) / 12) a2 u) (fun r17 w18 => if r17 = 0 then (pX7_reaches_b64 a1 a2 w18) else (pX7_reaches_b60 a1 a2 w18)))) else (pX7_reaches_b64 a1 a2 u))))) else (bnd (pX7_isWithin (u.1 19 a1.toNatClampNeg) a2 u) (fun r21 w22 => if r21 = 0 ∨ r21 = 1 then some (r21, w22) else none))))
set_option maxHeartbeats 4000000 in
set_option maxRecDepth 20000 in
theorem kX7_reaches {l : Launch} {D : va_G} {Y : Nat → ClassId} {q : Nat → Nat} {a1 a2 : Int32} {u u1 : St} {r : Int32} (hX : pX7_reaches a1 a2 u = some (r, u1)) : CMi l yX7_reaches cX7_reaches 5 (some .boolean) 2 44 D Y (wM Y q u) (wM Y q u1) [.ref (q 0), .int a1, .int a2] r := by
  refine cm_ofi (by decide) (Nat.le_of_ble_eq_true rfl) rfl (fun p e s m args below meth c A F hr hlk => ?_)
  show GW p l e { frames := 2, cells := 0, slots := 0, locals := 44 } s m args below meth c D A 5 0 0 (MQ below (QI D (wM Y q u1) r A) args s 0 0 A) (wM Y q u) 0 [(0, .ref (q 0)), (1, .int a1), (2, .int a2)] []
  have b103 : ∀   (v : St), pX7_reaches_b103  v = some (r, u1) → GW p l e { frames := 2, cells := 0, slots := 0, locals := 44 } s m args below meth c D A 5 0 0 (MQ below (QI D (wM Y q u1) r A) args s 0 0 A) (wM Y q v) 103 [] [] := by
    intro  v hX
    have hX : (some (0, v)) = some (r, u1) := hX
    refine g_iconst (v := 0) F dX7_reaches_103 (by decide) ?_
    exact g_retC (wf := wM Y q) F hr rfl hlk dX7_reaches_104 hX
  have b99 : ∀   (v : St), pX7_reaches_b99  v = some (r, u1) → GW p l e { frames := 2, cells := 0, slots := 0, locals := 44 } s m args below meth c D A 5 0 0 (MQ below (QI D (wM Y q u1) r A) args s 0 0 A) (wM Y q v) 99 [] [] := by
    intro  v hX
    have hX : (some (1, v)) = some (r, u1) := hX
    refine g_iconst (v := 1) F dX7_reaches_99 (by decide) ?_
    refine g_goto (tgt := 104) F dX7_reaches_100 (by decide) ?_
    exact g_retC (wf := wM Y q) F hr rfl hlk dX7_reaches_104 hX
  have b65 : ∀  (x1 : Int32) (x2 : Int32) (y0 : Int32) (v : St), pX7_reaches_b65  x1 x2 y0 v = some (r, u1) → GW p l e { frames := 2, cells := 0, slots := 0, locals := 44 } s m args below meth c D A 5 0 0 (MQ below (QI D (wM Y q u1) r A) args s 0 0 A) (wM Y q v) 65 [(0, .ref (q 0)), (1, .int x1), (2, .int x2)] [.int y0] := by
    intro  x1 x2 y0 v hX
    have hX : (if y0 = 0 then (pX7_reaches_b103 v) else (if (x1 < 0 ∨ 20 ≤ x1.toNatClampNeg) then none else (if (v.1 18 x1.toNatClampNeg) = 1 then (pX7_reaches_b99 v) else (if (x1 < 0 ∨ 20 ≤ x1.toNatClampNeg) then none else (bnd (pX7_isWithin ((v.1 20 x1.toNatClampNeg) / 12) x2 v) (fun r10 w11 => if r10 = 0 then (pX7_reaches_b103 w11) else (pX7_reaches_b99 w11))))))) = some (r, u1) := hX
    refine g_istore (lv' := [(4, .int y0), (0, .ref (q 0)), (1, .int x1), (2, .int x2)]) F dX7_reaches_65 (by decide) rfl ?_
    refine g_iload F dX7_reaches_67 0 rfl ?_
    refine g_if_eq (tgt := 103) F dX7_reaches_69 (by decide) (fun c6 => ?_) (fun c6 => ?_)
    · have hX := if_t hX c6
      refine g_sub [] rfl ?_
      exact b103 v hX
    · have hX := if_f hX c6
      refine g_aload_n F dX7_reaches_72 1 rfl rfl ?_
      refine G_X7_75 F dX7_reaches_73 ?_
      refine g_iload_n F dX7_reaches_76 2 rfl rfl ?_
      obtain ⟨hI7, hX⟩ := inb hX
      refine AL_18 F hI7 dX7_reaches_77 ?_
      refine g_iconst (v := 1) F dX7_reaches_78 (by decide) ?_
      refine g_icmp_eq (tgt := 99) F dX7_reaches_79 (by decide) (fun c8 => ?_) (fun c8 => ?_)
      · have hX := if_t hX c8
        refine g_sub [] rfl ?_
        exact b99 v hX
      · have hX := if_f hX c8
        refine g_aload_n F dX7_reaches_82 1 rfl rfl ?_
        refine g_aload_n F dX7_reaches_83 1 rfl rfl ?_
        refine G_X7_81 F dX7_reaches_84 ?_
        refine g_iload_n F dX7_reaches_87 2 rfl rfl ?_
        obtain ⟨hI9, hX⟩ := inb hX
        refine AL_20 F hI9 dX7_reaches_88 ?_
        refine g_bipush (v := 12) F dX7_reaches_89 (by decide) ?_
        refine g_idiv F dX7_reaches_91 (by decide) ?_
        refine g_iload_n F dX7_reaches_92 3 rfl rfl ?_
        obtain ⟨r10, w11, hc12, hX⟩ := bnd_s hX
        refine callX7_isWithin F hc12 ml_X7_174 ⟨Nat.le_of_ble_eq_true rfl, Nat.le_of_ble_eq_true rfl⟩ (Nat.le_of_ble_eq_true rfl) dX7_reaches_93 ?_
        refine g_if_eq (tgt := 103) F dX7_reaches_96 (by decide) (fun c13 => ?_) (fun c13 => ?_)
        · have hX := if_t hX c13
          refine g_sub [] rfl ?_
          exact b103 w11 hX
        · have hX := if_f hX c13
          refine g_sub [] rfl ?_
          exact b99 w11 hX
  have b60 : ∀  (x1 : Int32) (x2 : Int32) (v : St), pX7_reaches_b60  x1 x2 v = some (r, u1) → GW p l e { frames := 2, cells := 0, slots := 0, locals := 44 } s m args below meth c D A 5 0 0 (MQ below (QI D (wM Y q u1) r A) args s 0 0 A) (wM Y q v) 60 [(0, .ref (q 0)), (1, .int x1), (2, .int x2)] [] := by
    intro  x1 x2 v hX
    have hX : (pX7_reaches_b65 x1 x2 1 v) = some (r, u1) := hX
    refine g_iconst (v := 1) F dX7_reaches_60 (by decide) ?_
    refine g_goto (tgt := 65) F dX7_reaches_61 (by decide) ?_
    exact b65 x1 x2 1 v hX
  have b64 : ∀  (x1 : Int32) (x2 : Int32) (v : St), pX7_reaches_b64  x1 x2 v = some (r, u1) → GW p l e { frames := 2, cells := 0, slots := 0, locals := 44 } s m args below meth c D A 5 0 0 (MQ below (QI D (wM Y q u1) r A) args s 0 0 A) (wM Y q v) 64 [(0, .ref (q 0)), (1, .int x1), (2, .int x2)] [] := by
    intro  x1 x2 v hX
    have hX : (pX7_reaches_b65 x1 x2 0 v) = some (r, u1) := hX
    refine g_iconst (v := 0) F dX7_reaches_64 (by decide) ?_
    exact b65 x1 x2 0 v hX
  have hX : (if (a1 < 0 ∨ 20 ≤ a1.toNatClampNeg) then none else (if (a1 < 0 ∨ 20 ≤ a1.toNatClampNeg) then none else (if (u.1 18 a1.toNatClampNeg) < 3 then (if (a1 < 0 ∨ 20 ≤ a1.toNatClampNeg) then none else (if (u.1 18 a1.toNatClampNeg) = 0 then (pX7_reaches_b60 a1 a2 u) else (if (u.1 19 a1.toNatClampNeg < 0 ∨ 60 ≤ (u.1 19 a1.toNatClampNeg).toNatClampNeg) then none else (if (u.1 10 (u.1 19 a1.toNatClampNeg).toNatClampNeg) = 1 then (if (u.1 19 a1.toNatClampNeg < 0 ∨ 60 ≤ (u.1 19 a1.toNatClampNeg).toNatClampNeg) then none else (bnd (pX7_isWithin ((u.1 11 (u.1 19 a1.toNatClampNeg).toNatClampNeg) / 12) a2 u) (fun r17 w18 => if r17 = 0 then (pX7_reaches_b64 a1 a2 w18) else (pX7_reaches_b60 a1 a2 w18)))) else (pX7_reaches_b64 a1 a2 u))))) else (bnd (pX7_isWithin (u.1 19 a1.toNatClampNeg) a2 u) (fun r21 w22 => if r21 = 0 ∨ r21 = 1 then some (r21, w22) else none))))) = some (r, u1) := hX
  refine g_aload_n F dX7_reaches_0 0 rfl rfl ?_
  refine G_X7_78 F dX7_reaches_1 ?_
  refine g_iload_n F dX7_reaches_4 1 rfl rfl ?_
  obtain ⟨hI1, hX⟩ := inb hX
  refine AL_19 F hI1 dX7_reaches_5 ?_
  refine g_istore_n (lv' := [(3, .int (u.1 19 a1.toNatClampNeg)), (0, .ref (q 0)), (1, .int a1), (2, .int a2)]) F dX7_reaches_6 rfl (by decide) rfl ?_
  refine g_aload_n F dX7_reaches_7 1 rfl rfl ?_
  refine G_X7_75 F dX7_reaches_8 ?_
  refine g_iload_n F dX7_reaches_11 2 rfl rfl ?_
  obtain ⟨hI2, hX⟩ := inb hX
  refine AL_18 F hI2 dX7_reaches_12 ?_
  refine g_iconst (v := 3) F dX7_reaches_13 (by decide) ?_
  refine g_icmp_lt (tgt := 24) F dX7_reaches_14 (by decide) (fun c3 => ?_) (fun c3 => ?_)
  · have hX := if_t hX c3
    refine g_aload_n F dX7_reaches_24 1 rfl rfl ?_
    refine G_X7_75 F dX7_reaches_25 ?_
    refine g_iload_n F dX7_reaches_28 2 rfl rfl ?_
    obtain ⟨hI4, hX⟩ := inb hX
    refine AL_18 F hI4 dX7_reaches_29 ?_
    refine g_if_eq (tgt := 60) F dX7_reaches_30 (by decide) (fun c5 => ?_) (fun c5 => ?_)
    · have hX := if_t hX c5
      refine g_sub [1, 2, 3] rfl ?_
      exact b60 a1 a2 u hX
    · have hX := if_f hX c5
      refine g_aload_n F dX7_reaches_33 1 rfl rfl ?_
      refine G_X7_51 F dX7_reaches_34 ?_
      refine g_iload_n F dX7_reaches_37 0 rfl rfl ?_
      obtain ⟨hI14, hX⟩ := inb hX
      refine AL_10 F hI14 dX7_reaches_38 ?_
      refine g_iconst (v := 1) F dX7_reaches_39 (by decide) ?_
      refine g_icmp_ne (tgt := 64) F dX7_reaches_40 (by decide) (fun c15 => ?_) (fun c15 => ?_)
      · have hX := if_f hX c15
        refine g_sub [1, 2, 3] rfl ?_
        exact b64 a1 a2 u hX
      · have hX := if_t hX c15
        refine g_aload_n F dX7_reaches_43 1 rfl rfl ?_
        refine g_aload_n F dX7_reaches_44 1 rfl rfl ?_
        refine G_X7_54 F dX7_reaches_45 ?_
        refine g_iload_n F dX7_reaches_48 0 rfl rfl ?_
        obtain ⟨hI16, hX⟩ := inb hX
        refine AL_11 F hI16 dX7_reaches_49 ?_
        refine g_bipush (v := 12) F dX7_reaches_50 (by decide) ?_
        refine g_idiv F dX7_reaches_52 (by decide) ?_
        refine g_iload_n F dX7_reaches_53 3 rfl rfl ?_
        obtain ⟨r17, w18, hc19, hX⟩ := bnd_s hX
        refine callX7_isWithin F hc19 ml_X7_174 ⟨Nat.le_of_ble_eq_true rfl, Nat.le_of_ble_eq_true rfl⟩ (Nat.le_of_ble_eq_true rfl) dX7_reaches_54 ?_
        refine g_if_eq (tgt := 64) F dX7_reaches_57 (by decide) (fun c20 => ?_) (fun c20 => ?_)
        · have hX := if_t hX c20
          refine g_sub [1, 2, 3] rfl ?_
          exact b64 a1 a2 w18 hX
        · have hX := if_f hX c20
          refine g_sub [1, 2, 3] rfl ?_
          exact b60 a1 a2 w18 hX
  · have hX := if_f hX c3
    refine g_aload_n F dX7_reaches_17 1 rfl rfl ?_
    refine g_iload_n F dX7_reaches_18 0 rfl rfl ?_
    refine g_iload_n F dX7_reaches_19 3 rfl rfl ?_
    obtain ⟨r21, w22, hc23, hX⟩ := bnd_s hX
    refine callX7_isWithin F hc23 ml_X7_174 ⟨Nat.le_of_ble_eq_true rfl, Nat.le_of_ble_eq_true rfl⟩ (Nat.le_of_ble_eq_true rfl) dX7_reaches_20 ?_
    exact g_retCb (wf := wM Y q) F hr hlk dX7_reaches_23 hX
theorem callX7_reaches {p : Program} {l : Launch} {e : Env} {R : Room} {s : State} {m : MethodId} {args : Array Value} {below : List Frame} {meth : Method} {c : Code} {D : va_G} {Y : Nat → ClassId} {A : Nat → Prop} {cc : ByteArray} {nL : Nat} {own : String} {Q : State → Prop} {pc : Nat} {lv : List (Nat × Value)} {rest : List Value} {q : Nat → Nat} {a1 a2 : Int32} {u u1 : St} {r : Int32} (F : Fx p s m args c D Y A cc nL own) (hX : pX7_reaches a1 a2 u = some (r, u1)) {index : Nat} (hml : Cond.methodLink own index yX7_reaches ∈ TBL) (hR : 2 + 1 ≤ R.frames ∧ 8 + (5 + 11) + 44 ≤ R.locals) (hcat : (rest.map fun v => v.category).sum ≤ 8) (hd : decode cc pc = .ok (.invokevirtual index, 3)) (kk : GW p l e R s m args below meth c D A nL 0 0 Q (wM Y q u1) (pc + 3) lv (.int r :: rest)) : GW p l e R s m args below meth c D A nL 0 0 Q (wM Y q u) pc lv (.int a2 :: .int a1 :: .ref (q 0) :: rest) := g_callVi (ws := wM Y q u) (n := 2) (q0 := 0) (As := [.int a1, .int a2]) F [] [] (kX7_reaches hX) (List.append_nil _).symm (List.append_nil _) (by unfold mOK; decide +kernel) rfl rfl cd_yX7_reaches hml im_yX7_reaches se_yX7_reaches in_X7 rfl rfl hR ⟨Nat.zero_le _, Nat.zero_le _⟩ rfl hcat hd kk
theorem dX7_isDoable_0 : decode cX7_isDoable 0 = .ok (.aload_n 0, 1) := by decide +kernel
theorem dX7_isDoable_1 : decode cX7_isDoable 1 = .ok (.iload_n 1, 1) := by decide +kernel
theorem dX7_isDoable_2 : decode cX7_isDoable 2 = .ok (.iload_n 2, 1) := by decide +kernel
theorem dX7_isDoable_3 : decode cX7_isDoable 3 = .ok (.invokevirtual 177, 3) := by decide +kernel
theorem dX7_isDoable_6 : decode cX7_isDoable 6 = .ok (.ifCond .eq 15, 3) := by decide +kernel
theorem dX7_isDoable_9 : decode cX7_isDoable 9 = .ok (.aload_n 0, 1) := by decide +kernel
theorem dX7_isDoable_10 : decode cX7_isDoable 10 = .ok (.iload_n 1, 1) := by decide +kernel
theorem dX7_isDoable_11 : decode cX7_isDoable 11 = .ok (.invokevirtual 180, 3) := by decide +kernel
theorem dX7_isDoable_14 : decode cX7_isDoable 14 = .ok (.ifCond .eq 7, 3) := by decide +kernel
theorem dX7_isDoable_17 : decode cX7_isDoable 17 = .ok (.iconst 1, 1) := by decide +kernel
theorem dX7_isDoable_18 : decode cX7_isDoable 18 = .ok (.goto 4, 3) := by decide +kernel
theorem dX7_isDoable_21 : decode cX7_isDoable 21 = .ok (.iconst 0, 1) := by decide +kernel
theorem dX7_isDoable_22 : decode cX7_isDoable 22 = .ok (.ireturn, 1) := by decide +kernel
def pX7_isDoable_b21   (v : St) : Option (Int32 × St) := some (0, v)
def pX7_isDoable (a1 : Int32) (a2 : Int32) (u : St) : Option (Int32 × St) := bnd (pX7_reaches a1 a2 u) (fun r1 w2 => if r1 = 0 then (pX7_isDoable_b21 w2) else (bnd (pX7_isPossible a1 w2) (fun r5 w6 => if r5 = 0 then (pX7_isDoable_b21 w6) else (some (1, w6)))))
set_option maxHeartbeats 4000000 in
set_option maxRecDepth 20000 in
theorem kX7_isDoable {l : Launch} {D : va_G} {Y : Nat → ClassId} {q : Nat → Nat} {a1 a2 : Int32} {u u1 : St} {r : Int32} (hX : pX7_isDoable a1 a2 u = some (r, u1)) : CMi l yX7_isDoable cX7_isDoable 3 (some .boolean) 4 96 D Y (wM Y q u) (wM Y q u1) [.ref (q 0), .int a1, .int a2] r := by
  refine cm_ofi (by decide) (Nat.le_of_ble_eq_true rfl) rfl (fun p e s m args below meth c A F hr hlk => ?_)
  show GW p l e { frames := 4, cells := 0, slots := 0, locals := 96 } s m args below meth c D A 3 0 0 (MQ below (QI D (wM Y q u1) r A) args s 0 0 A) (wM Y q u) 0 [(0, .ref (q 0)), (1, .int a1), (2, .int a2)] []
  have b21 : ∀   (v : St), pX7_isDoable_b21  v = some (r, u1) → GW p l e { frames := 4, cells := 0, slots := 0, locals := 96 } s m args below meth c D A 3 0 0 (MQ below (QI D (wM Y q u1) r A) args s 0 0 A) (wM Y q v) 21 [] [] := by
    intro  v hX
    have hX : (some (0, v)) = some (r, u1) := hX
    refine g_iconst (v := 0) F dX7_isDoable_21 (by decide) ?_
    exact g_retC (wf := wM Y q) F hr rfl hlk dX7_isDoable_22 hX
  have hX : (bnd (pX7_reaches a1 a2 u) (fun r1 w2 => if r1 = 0 then (pX7_isDoable_b21 w2) else (bnd (pX7_isPossible a1 w2) (fun r5 w6 => if r5 = 0 then (pX7_isDoable_b21 w6) else (some (1, w6)))))) = some (r, u1) := hX
  refine g_aload_n F dX7_isDoable_0 0 rfl rfl ?_
  refine g_iload_n F dX7_isDoable_1 1 rfl rfl ?_
  refine g_iload_n F dX7_isDoable_2 2 rfl rfl ?_
  obtain ⟨r1, w2, hc3, hX⟩ := bnd_s hX
  refine callX7_reaches F hc3 ml_X7_177 ⟨Nat.le_of_ble_eq_true rfl, Nat.le_of_ble_eq_true rfl⟩ (Nat.le_of_ble_eq_true rfl) dX7_isDoable_3 ?_
  refine g_if_eq (tgt := 21) F dX7_isDoable_6 (by decide) (fun c4 => ?_) (fun c4 => ?_)
  · have hX := if_t hX c4
    refine g_sub [] rfl ?_
    exact b21 w2 hX
  · have hX := if_f hX c4
    refine g_aload_n F dX7_isDoable_9 0 rfl rfl ?_
    refine g_iload_n F dX7_isDoable_10 1 rfl rfl ?_
    obtain ⟨r5, w6, hc7, hX⟩ := bnd_s hX
    refine callX7_isPossible F hc7 ml_X7_180 ⟨Nat.le_of_ble_eq_true rfl, Nat.le_of_ble_eq_true rfl⟩ (Nat.le_of_ble_eq_true rfl) dX7_isDoable_11 ?_
    refine g_if_eq (tgt := 21) F dX7_isDoable_14 (by decide) (fun c8 => ?_) (fun c8 => ?_)
    · have hX := if_t hX c8
      refine g_sub [] rfl ?_
      exact b21 w6 hX
    · have hX := if_f hX c8
      refine g_iconst (v := 1) F dX7_isDoable_17 (by decide) ?_
      refine g_goto (tgt := 22) F dX7_isDoable_18 (by decide) ?_
      exact g_retC (wf := wM Y q) F hr rfl hlk dX7_isDoable_22 hX
theorem callX7_isDoable {p : Program} {l : Launch} {e : Env} {R : Room} {s : State} {m : MethodId} {args : Array Value} {below : List Frame} {meth : Method} {c : Code} {D : va_G} {Y : Nat → ClassId} {A : Nat → Prop} {cc : ByteArray} {nL : Nat} {own : String} {Q : State → Prop} {pc : Nat} {lv : List (Nat × Value)} {rest : List Value} {q : Nat → Nat} {a1 a2 : Int32} {u u1 : St} {r : Int32} (F : Fx p s m args c D Y A cc nL own) (hX : pX7_isDoable a1 a2 u = some (r, u1)) {index : Nat} (hml : Cond.methodLink own index yX7_isDoable ∈ TBL) (hR : 4 + 1 ≤ R.frames ∧ 8 + (3 + 11) + 96 ≤ R.locals) (hcat : (rest.map fun v => v.category).sum ≤ 8) (hd : decode cc pc = .ok (.invokevirtual index, 3)) (kk : GW p l e R s m args below meth c D A nL 0 0 Q (wM Y q u1) (pc + 3) lv (.int r :: rest)) : GW p l e R s m args below meth c D A nL 0 0 Q (wM Y q u) pc lv (.int a2 :: .int a1 :: .ref (q 0) :: rest) := g_callVi (ws := wM Y q u) (n := 2) (q0 := 0) (As := [.int a1, .int a2]) F [] [] (kX7_isDoable hX) (List.append_nil _).symm (List.append_nil _) (by unfold mOK; decide +kernel) rfl rfl cd_yX7_isDoable hml im_yX7_isDoable se_yX7_isDoable in_X7 rfl rfl hR ⟨Nat.zero_le _, Nat.zero_le _⟩ rfl hcat hd kk
theorem dX7_does_0 : decode cX7_does 0 = .ok (.aload_n 0, 1) := by decide +kernel
theorem dX7_does_1 : decode cX7_does 1 = .ok (.getfield 78, 3) := by decide +kernel
theorem dX7_does_4 : decode cX7_does 4 = .ok (.iload_n 1, 1) := by decide +kernel
theorem dX7_does_5 : decode cX7_does 5 = .ok (.iaload, 1) := by decide +kernel
theorem dX7_does_6 : decode cX7_does 6 = .ok (.istore_n 2, 1) := by decide +kernel
theorem dX7_does_7 : decode cX7_does 7 = .ok (.aload_n 0, 1) := by decide +kernel
theorem dX7_does_8 : decode cX7_does 8 = .ok (.getfield 75, 3) := by decide +kernel
theorem dX7_does_11 : decode cX7_does 11 = .ok (.iload_n 1, 1) := by decide +kernel
theorem dX7_does_12 : decode cX7_does 12 = .ok (.iaload, 1) := by decide +kernel
theorem dX7_does_13 : decode cX7_does 13 = .ok (.iconst 3, 1) := by decide +kernel
theorem dX7_does_14 : decode cX7_does 14 = .ok (.if_icmp .ge 7, 3) := by decide +kernel
theorem dX7_does_17 : decode cX7_does 17 = .ok (.iconst 1, 1) := by decide +kernel
theorem dX7_does_18 : decode cX7_does 18 = .ok (.goto 4, 3) := by decide +kernel
theorem dX7_does_21 : decode cX7_does 21 = .ok (.iconst 0, 1) := by decide +kernel
theorem dX7_does_22 : decode cX7_does 22 = .ok (.istore_n 3, 1) := by decide +kernel
theorem dX7_does_23 : decode cX7_does 23 = .ok (.iload_n 3, 1) := by decide +kernel
theorem dX7_does_24 : decode cX7_does 24 = .ok (.ifCond .eq 15, 3) := by decide +kernel
theorem dX7_does_27 : decode cX7_does 27 = .ok (.aload_n 0, 1) := by decide +kernel
theorem dX7_does_28 : decode cX7_does 28 = .ok (.getfield 36, 3) := by decide +kernel
theorem dX7_does_31 : decode cX7_does 31 = .ok (.iload_n 2, 1) := by decide +kernel
theorem dX7_does_32 : decode cX7_does 32 = .ok (.aload_n 0, 1) := by decide +kernel
theorem dX7_does_33 : decode cX7_does 33 = .ok (.getfield 39, 3) := by decide +kernel
theorem dX7_does_36 : decode cX7_does 36 = .ok (.iload_n 2, 1) := by decide +kernel
theorem dX7_does_37 : decode cX7_does 37 = .ok (.iaload, 1) := by decide +kernel
theorem dX7_does_38 : decode cX7_does 38 = .ok (.iastore, 1) := by decide +kernel
theorem dX7_does_39 : decode cX7_does 39 = .ok (.aload_n 0, 1) := by decide +kernel
theorem dX7_does_40 : decode cX7_does 40 = .ok (.iload_n 1, 1) := by decide +kernel
theorem dX7_does_41 : decode cX7_does 41 = .ok (.invokevirtual 180, 3) := by decide +kernel
theorem dX7_does_44 : decode cX7_does 44 = .ok (.ifCond .eq 105, 3) := by decide +kernel
theorem dX7_does_47 : decode cX7_does 47 = .ok (.iload_n 3, 1) := by decide +kernel
theorem dX7_does_48 : decode cX7_does 48 = .ok (.ifCond .ne 27, 3) := by decide +kernel
theorem dX7_does_51 : decode cX7_does 51 = .ok (.aload_n 0, 1) := by decide +kernel
theorem dX7_does_52 : decode cX7_does 52 = .ok (.getfield 17, 3) := by decide +kernel
theorem dX7_does_55 : decode cX7_does 55 = .ok (.iload_n 2, 1) := by decide +kernel
theorem dX7_does_56 : decode cX7_does 56 = .ok (.aload_n 0, 1) := by decide +kernel
theorem dX7_does_57 : decode cX7_does 57 = .ok (.getfield 75, 3) := by decide +kernel
theorem dX7_does_60 : decode cX7_does 60 = .ok (.iload_n 1, 1) := by decide +kernel
theorem dX7_does_61 : decode cX7_does 61 = .ok (.iaload, 1) := by decide +kernel
theorem dX7_does_62 : decode cX7_does 62 = .ok (.iconst 3, 1) := by decide +kernel
theorem dX7_does_63 : decode cX7_does 63 = .ok (.if_icmp .ne 7, 3) := by decide +kernel
theorem dX7_does_66 : decode cX7_does 66 = .ok (.iconst 1, 1) := by decide +kernel
theorem dX7_does_67 : decode cX7_does 67 = .ok (.goto 4, 3) := by decide +kernel
theorem dX7_does_70 : decode cX7_does 70 = .ok (.iconst 0, 1) := by decide +kernel
theorem dX7_does_71 : decode cX7_does 71 = .ok (.bastore, 1) := by decide +kernel
theorem dX7_does_72 : decode cX7_does 72 = .ok (.goto 77, 3) := by decide +kernel
theorem dX7_does_75 : decode cX7_does 75 = .ok (.aload_n 0, 1) := by decide +kernel
theorem dX7_does_76 : decode cX7_does 76 = .ok (.getfield 51, 3) := by decide +kernel
theorem dX7_does_79 : decode cX7_does 79 = .ok (.iload_n 2, 1) := by decide +kernel
theorem dX7_does_80 : decode cX7_does 80 = .ok (.iaload, 1) := by decide +kernel
theorem dX7_does_81 : decode cX7_does 81 = .ok (.ifCond .ne 21, 3) := by decide +kernel
theorem dX7_does_84 : decode cX7_does 84 = .ok (.aload_n 0, 1) := by decide +kernel
theorem dX7_does_85 : decode cX7_does 85 = .ok (.getfield 57, 3) := by decide +kernel
theorem dX7_does_88 : decode cX7_does 88 = .ok (.aload_n 0, 1) := by decide +kernel
theorem dX7_does_89 : decode cX7_does 89 = .ok (.getfield 54, 3) := by decide +kernel
theorem dX7_does_92 : decode cX7_does 92 = .ok (.iload_n 2, 1) := by decide +kernel
theorem dX7_does_93 : decode cX7_does 93 = .ok (.iaload, 1) := by decide +kernel
theorem dX7_does_94 : decode cX7_does 94 = .ok (.dup2, 1) := by decide +kernel
theorem dX7_does_95 : decode cX7_does 95 = .ok (.iaload, 1) := by decide +kernel
theorem dX7_does_96 : decode cX7_does 96 = .ok (.iconst 1, 1) := by decide +kernel
theorem dX7_does_97 : decode cX7_does 97 = .ok (.isub, 1) := by decide +kernel
theorem dX7_does_98 : decode cX7_does 98 = .ok (.iastore, 1) := by decide +kernel
theorem dX7_does_99 : decode cX7_does 99 = .ok (.goto 15, 3) := by decide +kernel
theorem dX7_does_102 : decode cX7_does 102 = .ok (.aload_n 0, 1) := by decide +kernel
theorem dX7_does_103 : decode cX7_does 103 = .ok (.getfield 7, 3) := by decide +kernel
theorem dX7_does_106 : decode cX7_does 106 = .ok (.aload_n 0, 1) := by decide +kernel
theorem dX7_does_107 : decode cX7_does 107 = .ok (.getfield 54, 3) := by decide +kernel
theorem dX7_does_110 : decode cX7_does 110 = .ok (.iload_n 2, 1) := by decide +kernel
theorem dX7_does_111 : decode cX7_does 111 = .ok (.iaload, 1) := by decide +kernel
theorem dX7_does_112 : decode cX7_does 112 = .ok (.iconst (-1), 1) := by decide +kernel
theorem dX7_does_113 : decode cX7_does 113 = .ok (.iastore, 1) := by decide +kernel
theorem dX7_does_114 : decode cX7_does 114 = .ok (.aload_n 0, 1) := by decide +kernel
theorem dX7_does_115 : decode cX7_does 115 = .ok (.getfield 75, 3) := by decide +kernel
theorem dX7_does_118 : decode cX7_does 118 = .ok (.iload_n 1, 1) := by decide +kernel
theorem dX7_does_119 : decode cX7_does 119 = .ok (.iaload, 1) := by decide +kernel
theorem dX7_does_120 : decode cX7_does 120 = .ok (.iconst 1, 1) := by decide +kernel
theorem dX7_does_121 : decode cX7_does 121 = .ok (.if_icmp .ne 17, 3) := by decide +kernel
theorem dX7_does_124 : decode cX7_does 124 = .ok (.aload_n 0, 1) := by decide +kernel
theorem dX7_does_125 : decode cX7_does 125 = .ok (.iload_n 2, 1) := by decide +kernel
theorem dX7_does_126 : decode cX7_does 126 = .ok (.aload_n 0, 1) := by decide +kernel
theorem dX7_does_127 : decode cX7_does 127 = .ok (.getfield 81, 3) := by decide +kernel
theorem dX7_does_130 : decode cX7_does 130 = .ok (.iload_n 1, 1) := by decide +kernel
theorem dX7_does_131 : decode cX7_does 131 = .ok (.iaload, 1) := by decide +kernel
theorem dX7_does_132 : decode cX7_does 132 = .ok (.invokevirtual 139, 3) := by decide +kernel
theorem dX7_does_135 : decode cX7_does 135 = .ok (.goto 14, 3) := by decide +kernel
theorem dX7_does_138 : decode cX7_does 138 = .ok (.aload_n 0, 1) := by decide +kernel
theorem dX7_does_139 : decode cX7_does 139 = .ok (.iload_n 2, 1) := by decide +kernel
theorem dX7_does_140 : decode cX7_does 140 = .ok (.aload_n 0, 1) := by decide +kernel
theorem dX7_does_141 : decode cX7_does 141 = .ok (.getfield 81, 3) := by decide +kernel
theorem dX7_does_144 : decode cX7_does 144 = .ok (.iload_n 1, 1) := by decide +kernel
theorem dX7_does_145 : decode cX7_does 145 = .ok (.iaload, 1) := by decide +kernel
theorem dX7_does_146 : decode cX7_does 146 = .ok (.invokevirtual 183, 3) := by decide +kernel
theorem dX7_does_149 : decode cX7_does 149 = .ok (.aload_n 0, 1) := by decide +kernel
theorem dX7_does_150 : decode cX7_does 150 = .ok (.iload_n 1, 1) := by decide +kernel
theorem dX7_does_151 : decode cX7_does 151 = .ok (.invokevirtual 158, 3) := by decide +kernel
theorem dX7_does_154 : decode cX7_does 154 = .ok (.aload_n 0, 1) := by decide +kernel
theorem dX7_does_155 : decode cX7_does 155 = .ok (.dup, 1) := by decide +kernel
theorem dX7_does_156 : decode cX7_does 156 = .ok (.getfield 186, 3) := by decide +kernel
theorem dX7_does_159 : decode cX7_does 159 = .ok (.bipush 10, 2) := by decide +kernel
theorem dX7_does_161 : decode cX7_does 161 = .ok (.iadd, 1) := by decide +kernel
theorem dX7_does_162 : decode cX7_does 162 = .ok (.putfield 186, 3) := by decide +kernel
theorem dX7_does_165 : decode cX7_does 165 = .ok (.return_, 1) := by decide +kernel
def pX7_does_b149  (x1 : Int32) (v : St) : Option (Int32 × St) := bnd (pX7_removes x1 v) (fun r9 w10 => some (0, sS w10 8 ((w10.2 8) + 10)))
def pX7_does_b114  (x1 : Int32) (x2 : Int32) (v : St) : Option (Int32 × St) := if (x1 < 0 ∨ 20 ≤ x1.toNatClampNeg) then none else (if (v.1 18 x1.toNatClampNeg) = 1 then (if (x1 < 0 ∨ 20 ≤ x1.toNatClampNeg) then none else (bnd (pX7_comesTo x2 (v.1 20 x1.toNatClampNeg) v) (fun r24 w25 => pX7_does_b149 x1 w25))) else (if (x1 < 0 ∨ 20 ≤ x1.toNatClampNeg) then none else (bnd (pX7_comesAboard x2 (v.1 20 x1.toNatClampNeg) v) (fun r20 w21 => pX7_does_b149 x1 w21))))
def pX7_does_b71  (x1 : Int32) (y0 : Int32) (y1 : Int32) (v : St) : Option (Int32 × St) := if (y1 < 0 ∨ 6 ≤ y1.toNatClampNeg) then none else (pX7_does_b149 x1 (sA v 2 (upd (v.1 2) y1.toNatClampNeg (vp_nar .boolean y0))))
def pX7_does_b39  (x1 : Int32) (x2 : Int32) (x3 : Int32) (v : St) : Option (Int32 × St) := bnd (pX7_isPossible x1 v) (fun r5 w6 => if r5 = 0 then (pX7_does_b149 x1 w6) else (if x3 = 0 then (if (x1 < 0 ∨ 20 ≤ x1.toNatClampNeg) then none else (if (w6.1 18 x1.toNatClampNeg) = 3 then (pX7_does_b71 x1 1 x2 w6) else (pX7_does_b71 x1 0 x2 w6))) else (if (x2 < 0 ∨ 60 ≤ x2.toNatClampNeg) then none else (if (w6.1 10 x2.toNatClampNeg) = 0 then (if (x2 < 0 ∨ 60 ≤ x2.toNatClampNeg) then none else (if (w6.1 11 x2.toNatClampNeg < 0 ∨ 10 ≤ (w6.1 11 x2.toNatClampNeg).toNatClampNeg) then none else (if (w6.1 11 x2.toNatClampNeg < 0 ∨ 10 ≤ (w6.1 11 x2.toNatClampNeg).toNatClampNeg) then none else (pX7_does_b114 x1 x2 (sA w6 12 (upd (w6.1 12) (w6.1 11 x2.toNatClampNeg).toNatClampNeg ((w6.1 12 (w6.1 11 x2.toNatClampNeg).toNatClampNeg) - 1))))))) else (if (x2 < 0 ∨ 60 ≤ x2.toNatClampNeg) then none else (if (w6.1 11 x2.toNatClampNeg < 0 ∨ 72 ≤ (w6.1 11 x2.toNatClampNeg).toNatClampNeg) then none else (pX7_does_b114 x1 x2 (sA w6 0 (upd (w6.1 0) (w6.1 11 x2.toNatClampNeg).toNatClampNeg ((-1)))))))))))
def pX7_does_b22  (x1 : Int32) (x2 : Int32) (y0 : Int32) (v : St) : Option (Int32 × St) := if y0 = 0 then (pX7_does_b39 x1 x2 y0 v) else (if (x2 < 0 ∨ 60 ≤ x2.toNatClampNeg) then none else (if (x2 < 0 ∨ 60 ≤ x2.toNatClampNeg) then none else (pX7_does_b39 x1 x2 y0 (sA v 5 (upd (v.1 5) x2.toNatClampNeg (v.1 6 x2.toNatClampNeg))))))
def pX7_does (a1 : Int32) (u : St) : Option (Int32 × St) := if (a1 < 0 ∨ 20 ≤ a1.toNatClampNeg) then none else (if (a1 < 0 ∨ 20 ≤ a1.toNatClampNeg) then none else (if 3 ≤ (u.1 18 a1.toNatClampNeg) then (pX7_does_b22 a1 (u.1 19 a1.toNatClampNeg) 0 u) else (pX7_does_b22 a1 (u.1 19 a1.toNatClampNeg) 1 u)))
set_option maxHeartbeats 4000000 in
set_option maxRecDepth 20000 in
theorem kX7_does {l : Launch} {D : va_G} {Y : Nat → ClassId} {q : Nat → Nat} {a1 : Int32} {u u1 : St} {r : Int32} (hX : pX7_does a1 u = some (r, u1)) : CMv l yX7_does cX7_does 4 4 96 D Y (wM Y q u) (wM Y q u1) [.ref (q 0), .int a1] := by
  refine cm_ofv (by decide) (Nat.le_of_ble_eq_true rfl) rfl (fun p e s m args below meth c A F hr hlk => ?_)
  show GW p l e { frames := 4, cells := 0, slots := 0, locals := 96 } s m args below meth c D A 4 0 0 (MQ below (QV D (wM Y q u1) A) args s 0 0 A) (wM Y q u) 0 [(0, .ref (q 0)), (1, .int a1)] []
  have b149 : ∀  (x1 : Int32) (v : St), pX7_does_b149  x1 v = some (r, u1) → GW p l e { frames := 4, cells := 0, slots := 0, locals := 96 } s m args below meth c D A 4 0 0 (MQ below (QV D (wM Y q u1) A) args s 0 0 A) (wM Y q v) 149 [(0, .ref (q 0)), (1, .int x1)] [] := by
    intro  x1 v hX
    have hX : (bnd (pX7_removes x1 v) (fun r9 w10 => some (0, sS w10 8 ((w10.2 8) + 10)))) = some (r, u1) := hX
    refine g_aload_n F dX7_does_149 0 rfl rfl ?_
    refine g_iload_n F dX7_does_150 1 rfl rfl ?_
    obtain ⟨r9, w10, hc11, hX⟩ := bnd_s hX
    refine callX7_removes F hc11 ml_X7_158 ⟨Nat.le_of_ble_eq_true rfl, Nat.le_of_ble_eq_true rfl⟩ (Nat.le_of_ble_eq_true rfl) dX7_does_151 ?_
    refine g_aload_n F dX7_does_154 0 rfl rfl ?_
    refine g_dup F dX7_does_155 rfl ?_
    refine G_X7_186 F dX7_does_156 ?_
    refine g_bipush (v := 10) F dX7_does_159 (by decide) ?_
    refine g_iadd F dX7_does_161 ?_
    refine P_X7_186 F dX7_does_162 ?_
    exact g_retV (wf := wM Y q) F hr hlk dX7_does_165 hX
  have b114 : ∀  (x1 : Int32) (x2 : Int32) (v : St), pX7_does_b114  x1 x2 v = some (r, u1) → GW p l e { frames := 4, cells := 0, slots := 0, locals := 96 } s m args below meth c D A 4 0 0 (MQ below (QV D (wM Y q u1) A) args s 0 0 A) (wM Y q v) 114 [(0, .ref (q 0)), (1, .int x1), (2, .int x2)] [] := by
    intro  x1 x2 v hX
    have hX : (if (x1 < 0 ∨ 20 ≤ x1.toNatClampNeg) then none else (if (v.1 18 x1.toNatClampNeg) = 1 then (if (x1 < 0 ∨ 20 ≤ x1.toNatClampNeg) then none else (bnd (pX7_comesTo x2 (v.1 20 x1.toNatClampNeg) v) (fun r24 w25 => pX7_does_b149 x1 w25))) else (if (x1 < 0 ∨ 20 ≤ x1.toNatClampNeg) then none else (bnd (pX7_comesAboard x2 (v.1 20 x1.toNatClampNeg) v) (fun r20 w21 => pX7_does_b149 x1 w21))))) = some (r, u1) := hX
    refine g_aload_n F dX7_does_114 0 rfl rfl ?_
    refine G_X7_75 F dX7_does_115 ?_
    refine g_iload_n F dX7_does_118 1 rfl rfl ?_
    obtain ⟨hI17, hX⟩ := inb hX
    refine AL_18 F hI17 dX7_does_119 ?_
    refine g_iconst (v := 1) F dX7_does_120 (by decide) ?_
    refine g_icmp_ne (tgt := 138) F dX7_does_121 (by decide) (fun c18 => ?_) (fun c18 => ?_)
    · have hX := if_f hX c18
      refine g_aload_n F dX7_does_138 0 rfl rfl ?_
      refine g_iload_n F dX7_does_139 2 rfl rfl ?_
      refine g_aload_n F dX7_does_140 0 rfl rfl ?_
      refine G_X7_81 F dX7_does_141 ?_
      refine g_iload_n F dX7_does_144 1 rfl rfl ?_
      obtain ⟨hI19, hX⟩ := inb hX
      refine AL_20 F hI19 dX7_does_145 ?_
      obtain ⟨r20, w21, hc22, hX⟩ := bnd_s hX
      refine callX7_comesAboard F hc22 ml_X7_183 ⟨Nat.le_of_ble_eq_true rfl, Nat.le_of_ble_eq_true rfl⟩ (Nat.le_of_ble_eq_true rfl) dX7_does_146 ?_
      refine g_sub [0, 1] rfl ?_
      exact b149 x1 w21 hX
    · have hX := if_t hX c18
      refine g_aload_n F dX7_does_124 0 rfl rfl ?_
      refine g_iload_n F dX7_does_125 2 rfl rfl ?_
      refine g_aload_n F dX7_does_126 0 rfl rfl ?_
      refine G_X7_81 F dX7_does_127 ?_
      refine g_iload_n F dX7_does_130 1 rfl rfl ?_
      obtain ⟨hI23, hX⟩ := inb hX
      refine AL_20 F hI23 dX7_does_131 ?_
      obtain ⟨r24, w25, hc26, hX⟩ := bnd_s hX
      refine callX7_comesTo F hc26 ml_X7_139 ⟨Nat.le_of_ble_eq_true rfl, Nat.le_of_ble_eq_true rfl⟩ (Nat.le_of_ble_eq_true rfl) dX7_does_132 ?_
      refine g_goto (tgt := 149) F dX7_does_135 (by decide) ?_
      refine g_sub [0, 1] rfl ?_
      exact b149 x1 w25 hX
  have b71 : ∀  (x1 : Int32) (y0 : Int32) (y1 : Int32) (v : St), pX7_does_b71  x1 y0 y1 v = some (r, u1) → GW p l e { frames := 4, cells := 0, slots := 0, locals := 96 } s m args below meth c D A 4 0 0 (MQ below (QV D (wM Y q u1) A) args s 0 0 A) (wM Y q v) 71 [(0, .ref (q 0)), (1, .int x1)] [.int y0, .int y1, .ref (q 3)] := by
    intro  x1 y0 y1 v hX
    have hX : (if (y1 < 0 ∨ 6 ≤ y1.toNatClampNeg) then none else (pX7_does_b149 x1 (sA v 2 (upd (v.1 2) y1.toNatClampNeg (vp_nar .boolean y0))))) = some (r, u1) := hX
    obtain ⟨hI32, hX⟩ := inb hX
    refine AS_2 F hI32 dX7_does_71 ?_
    refine g_goto (tgt := 149) F dX7_does_72 (by decide) ?_
    exact b149 x1 (sA v 2 (upd (v.1 2) y1.toNatClampNeg (vp_nar .boolean y0))) hX
  have b39 : ∀  (x1 : Int32) (x2 : Int32) (x3 : Int32) (v : St), pX7_does_b39  x1 x2 x3 v = some (r, u1) → GW p l e { frames := 4, cells := 0, slots := 0, locals := 96 } s m args below meth c D A 4 0 0 (MQ below (QV D (wM Y q u1) A) args s 0 0 A) (wM Y q v) 39 [(0, .ref (q 0)), (1, .int x1), (2, .int x2), (3, .int x3)] [] := by
    intro  x1 x2 x3 v hX
    have hX : (bnd (pX7_isPossible x1 v) (fun r5 w6 => if r5 = 0 then (pX7_does_b149 x1 w6) else (if x3 = 0 then (if (x1 < 0 ∨ 20 ≤ x1.toNatClampNeg) then none else (if (w6.1 18 x1.toNatClampNeg) = 3 then (pX7_does_b71 x1 1 x2 w6) else (pX7_does_b71 x1 0 x2 w6))) else (if (x2 < 0 ∨ 60 ≤ x2.toNatClampNeg) then none else (if (w6.1 10 x2.toNatClampNeg) = 0 then (if (x2 < 0 ∨ 60 ≤ x2.toNatClampNeg) then none else (if (w6.1 11 x2.toNatClampNeg < 0 ∨ 10 ≤ (w6.1 11 x2.toNatClampNeg).toNatClampNeg) then none else (if (w6.1 11 x2.toNatClampNeg < 0 ∨ 10 ≤ (w6.1 11 x2.toNatClampNeg).toNatClampNeg) then none else (pX7_does_b114 x1 x2 (sA w6 12 (upd (w6.1 12) (w6.1 11 x2.toNatClampNeg).toNatClampNeg ((w6.1 12 (w6.1 11 x2.toNatClampNeg).toNatClampNeg) - 1))))))) else (if (x2 < 0 ∨ 60 ≤ x2.toNatClampNeg) then none else (if (w6.1 11 x2.toNatClampNeg < 0 ∨ 72 ≤ (w6.1 11 x2.toNatClampNeg).toNatClampNeg) then none else (pX7_does_b114 x1 x2 (sA w6 0 (upd (w6.1 0) (w6.1 11 x2.toNatClampNeg).toNatClampNeg ((-1)))))))))))) = some (r, u1) := hX
    refine g_aload_n F dX7_does_39 0 rfl rfl ?_
    refine g_iload_n F dX7_does_40 1 rfl rfl ?_
    obtain ⟨r5, w6, hc7, hX⟩ := bnd_s hX
    refine callX7_isPossible F hc7 ml_X7_180 ⟨Nat.le_of_ble_eq_true rfl, Nat.le_of_ble_eq_true rfl⟩ (Nat.le_of_ble_eq_true rfl) dX7_does_41 ?_
    refine g_if_eq (tgt := 149) F dX7_does_44 (by decide) (fun c8 => ?_) (fun c8 => ?_)
    · have hX := if_t hX c8
      refine g_sub [0, 1] rfl ?_
      exact b149 x1 w6 hX
    · have hX := if_f hX c8
      refine g_iload_n F dX7_does_47 3 rfl rfl ?_
      refine g_if_ne (tgt := 75) F dX7_does_48 (by decide) (fun c12 => ?_) (fun c12 => ?_)
      · have hX := if_f hX c12
        refine g_aload_n F dX7_does_75 0 rfl rfl ?_
        refine G_X7_51 F dX7_does_76 ?_
        refine g_iload_n F dX7_does_79 2 rfl rfl ?_
        obtain ⟨hI13, hX⟩ := inb hX
        refine AL_10 F hI13 dX7_does_80 ?_
        refine g_if_ne (tgt := 102) F dX7_does_81 (by decide) (fun c14 => ?_) (fun c14 => ?_)
        · have hX := if_f hX c14
          refine g_aload_n F dX7_does_102 0 rfl rfl ?_
          refine G_X7_7 F dX7_does_103 ?_
          refine g_aload_n F dX7_does_106 0 rfl rfl ?_
          refine G_X7_54 F dX7_does_107 ?_
          refine g_iload_n F dX7_does_110 2 rfl rfl ?_
          obtain ⟨hI15, hX⟩ := inb hX
          refine AL_11 F hI15 dX7_does_111 ?_
          refine g_iconst (v := (-1)) F dX7_does_112 (by decide) ?_
          obtain ⟨hI16, hX⟩ := inb hX
          refine AS_0 F hI16 dX7_does_113 ?_
          refine g_sub [0, 1, 2] rfl ?_
          exact b114 x1 x2 (sA w6 0 (upd (w6.1 0) (w6.1 11 x2.toNatClampNeg).toNatClampNeg ((-1)))) hX
        · have hX := if_t hX c14
          refine g_aload_n F dX7_does_84 0 rfl rfl ?_
          refine G_X7_57 F dX7_does_85 ?_
          refine g_aload_n F dX7_does_88 0 rfl rfl ?_
          refine G_X7_54 F dX7_does_89 ?_
          refine g_iload_n F dX7_does_92 2 rfl rfl ?_
          obtain ⟨hI27, hX⟩ := inb hX
          refine AL_11 F hI27 dX7_does_93 ?_
          refine g_dup2 F dX7_does_94 rfl rfl ?_
          obtain ⟨hI28, hX⟩ := inb hX
          refine AL_12 F hI28 dX7_does_95 ?_
          refine g_iconst (v := 1) F dX7_does_96 (by decide) ?_
          refine g_isub F dX7_does_97 ?_
          obtain ⟨hI29, hX⟩ := inb hX
          refine AS_12 F hI29 dX7_does_98 ?_
          refine g_goto (tgt := 114) F dX7_does_99 (by decide) ?_
          refine g_sub [0, 1, 2] rfl ?_
          exact b114 x1 x2 (sA w6 12 (upd (w6.1 12) (w6.1 11 x2.toNatClampNeg).toNatClampNeg ((w6.1 12 (w6.1 11 x2.toNatClampNeg).toNatClampNeg) - 1))) hX
      · have hX := if_t hX c12
        refine g_aload_n F dX7_does_51 0 rfl rfl ?_
        refine G_X7_17 F dX7_does_52 ?_
        refine g_iload_n F dX7_does_55 2 rfl rfl ?_
        refine g_aload_n F dX7_does_56 0 rfl rfl ?_
        refine G_X7_75 F dX7_does_57 ?_
        refine g_iload_n F dX7_does_60 1 rfl rfl ?_
        obtain ⟨hI30, hX⟩ := inb hX
        refine AL_18 F hI30 dX7_does_61 ?_
        refine g_iconst (v := 3) F dX7_does_62 (by decide) ?_
        refine g_icmp_ne (tgt := 70) F dX7_does_63 (by decide) (fun c31 => ?_) (fun c31 => ?_)
        · have hX := if_f hX c31
          refine g_iconst (v := 0) F dX7_does_70 (by decide) ?_
          refine g_sub [0, 1] rfl ?_
          exact b71 x1 0 x2 w6 hX
        · have hX := if_t hX c31
          refine g_iconst (v := 1) F dX7_does_66 (by decide) ?_
          refine g_goto (tgt := 71) F dX7_does_67 (by decide) ?_
          refine g_sub [0, 1] rfl ?_
          exact b71 x1 1 x2 w6 hX
  have b22 : ∀  (x1 : Int32) (x2 : Int32) (y0 : Int32) (v : St), pX7_does_b22  x1 x2 y0 v = some (r, u1) → GW p l e { frames := 4, cells := 0, slots := 0, locals := 96 } s m args below meth c D A 4 0 0 (MQ below (QV D (wM Y q u1) A) args s 0 0 A) (wM Y q v) 22 [(0, .ref (q 0)), (1, .int x1), (2, .int x2)] [.int y0] := by
    intro  x1 x2 y0 v hX
    have hX : (if y0 = 0 then (pX7_does_b39 x1 x2 y0 v) else (if (x2 < 0 ∨ 60 ≤ x2.toNatClampNeg) then none else (if (x2 < 0 ∨ 60 ≤ x2.toNatClampNeg) then none else (pX7_does_b39 x1 x2 y0 (sA v 5 (upd (v.1 5) x2.toNatClampNeg (v.1 6 x2.toNatClampNeg))))))) = some (r, u1) := hX
    refine g_istore_n (lv' := [(3, .int y0), (0, .ref (q 0)), (1, .int x1), (2, .int x2)]) F dX7_does_22 rfl (by decide) rfl ?_
    refine g_iload_n F dX7_does_23 0 rfl rfl ?_
    refine g_if_eq (tgt := 39) F dX7_does_24 (by decide) (fun c4 => ?_) (fun c4 => ?_)
    · have hX := if_t hX c4
      refine g_sub [1, 2, 3, 0] rfl ?_
      exact b39 x1 x2 y0 v hX
    · have hX := if_f hX c4
      refine g_aload_n F dX7_does_27 1 rfl rfl ?_
      refine G_X7_36 F dX7_does_28 ?_
      refine g_iload_n F dX7_does_31 3 rfl rfl ?_
      refine g_aload_n F dX7_does_32 1 rfl rfl ?_
      refine G_X7_39 F dX7_does_33 ?_
      refine g_iload_n F dX7_does_36 3 rfl rfl ?_
      obtain ⟨hI33, hX⟩ := inb hX
      refine AL_6 F hI33 dX7_does_37 ?_
      obtain ⟨hI34, hX⟩ := inb hX
      refine AS_5 F hI34 dX7_does_38 ?_
      refine g_sub [1, 2, 3, 0] rfl ?_
      exact b39 x1 x2 y0 (sA v 5 (upd (v.1 5) x2.toNatClampNeg (v.1 6 x2.toNatClampNeg))) hX
  have hX : (if (a1 < 0 ∨ 20 ≤ a1.toNatClampNeg) then none else (if (a1 < 0 ∨ 20 ≤ a1.toNatClampNeg) then none else (if 3 ≤ (u.1 18 a1.toNatClampNeg) then (pX7_does_b22 a1 (u.1 19 a1.toNatClampNeg) 0 u) else (pX7_does_b22 a1 (u.1 19 a1.toNatClampNeg) 1 u)))) = some (r, u1) := hX
  refine g_aload_n F dX7_does_0 0 rfl rfl ?_
  refine G_X7_78 F dX7_does_1 ?_
  refine g_iload_n F dX7_does_4 1 rfl rfl ?_
  obtain ⟨hI1, hX⟩ := inb hX
  refine AL_19 F hI1 dX7_does_5 ?_
  refine g_istore_n (lv' := [(2, .int (u.1 19 a1.toNatClampNeg)), (0, .ref (q 0)), (1, .int a1)]) F dX7_does_6 rfl (by decide) rfl ?_
  refine g_aload_n F dX7_does_7 1 rfl rfl ?_
  refine G_X7_75 F dX7_does_8 ?_
  refine g_iload_n F dX7_does_11 2 rfl rfl ?_
  obtain ⟨hI2, hX⟩ := inb hX
  refine AL_18 F hI2 dX7_does_12 ?_
  refine g_iconst (v := 3) F dX7_does_13 (by decide) ?_
  refine g_icmp_ge (tgt := 21) F dX7_does_14 (by decide) (fun c3 => ?_) (fun c3 => ?_)
  · have hX := if_t hX c3
    refine g_iconst (v := 0) F dX7_does_21 (by decide) ?_
    refine g_sub [1, 2, 0] rfl ?_
    exact b22 a1 (u.1 19 a1.toNatClampNeg) 0 u hX
  · have hX := if_f hX c3
    refine g_iconst (v := 1) F dX7_does_17 (by decide) ?_
    refine g_goto (tgt := 22) F dX7_does_18 (by decide) ?_
    refine g_sub [1, 2, 0] rfl ?_
    exact b22 a1 (u.1 19 a1.toNatClampNeg) 1 u hX
theorem callX7_does {p : Program} {l : Launch} {e : Env} {R : Room} {s : State} {m : MethodId} {args : Array Value} {below : List Frame} {meth : Method} {c : Code} {D : va_G} {Y : Nat → ClassId} {A : Nat → Prop} {cc : ByteArray} {nL : Nat} {own : String} {Q : State → Prop} {pc : Nat} {lv : List (Nat × Value)} {rest : List Value} {q : Nat → Nat} {a1 : Int32} {u u1 : St} {r : Int32} (F : Fx p s m args c D Y A cc nL own) (hX : pX7_does a1 u = some (r, u1)) {index : Nat} (hml : Cond.methodLink own index yX7_does ∈ TBL) (hR : 4 + 1 ≤ R.frames ∧ 8 + (4 + 11) + 96 ≤ R.locals) (hcat : (rest.map fun v => v.category).sum ≤ 8) (hd : decode cc pc = .ok (.invokevirtual index, 3)) (kk : GW p l e R s m args below meth c D A nL 0 0 Q (wM Y q u1) (pc + 3) lv (rest)) : GW p l e R s m args below meth c D A nL 0 0 Q (wM Y q u) pc lv (.int a1 :: .ref (q 0) :: rest) := g_callVv (ws := wM Y q u) (n := 1) (q0 := 0) (As := [.int a1]) F [] [] (kX7_does hX) (List.append_nil _).symm (List.append_nil _) (by unfold mOK; decide +kernel) rfl rfl cd_yX7_does hml im_yX7_does se_yX7_does in_X7 rfl rfl hR ⟨Nat.zero_le _, Nat.zero_le _⟩ rfl hcat hd kk
theorem dX7_liftsOf_0 : decode cX7_liftsOf 0 = .ok (.iconst 0, 1) := by decide +kernel
theorem dX7_liftsOf_1 : decode cX7_liftsOf 1 = .ok (.istore_n 2, 1) := by decide +kernel
theorem dX7_liftsOf_2 : decode cX7_liftsOf 2 = .ok (.iconst 0, 1) := by decide +kernel
theorem dX7_liftsOf_3 : decode cX7_liftsOf 3 = .ok (.istore_n 3, 1) := by decide +kernel
theorem dX7_liftsOf_4 : decode cX7_liftsOf 4 = .ok (.iload_n 3, 1) := by decide +kernel
theorem dX7_liftsOf_5 : decode cX7_liftsOf 5 = .ok (.aload_n 0, 1) := by decide +kernel
theorem dX7_liftsOf_6 : decode cX7_liftsOf 6 = .ok (.getfield 72, 3) := by decide +kernel
theorem dX7_liftsOf_9 : decode cX7_liftsOf 9 = .ok (.iload_n 1, 1) := by decide +kernel
theorem dX7_liftsOf_10 : decode cX7_liftsOf 10 = .ok (.iaload, 1) := by decide +kernel
theorem dX7_liftsOf_11 : decode cX7_liftsOf 11 = .ok (.if_icmp .ge 55, 3) := by decide +kernel
theorem dX7_liftsOf_14 : decode cX7_liftsOf 14 = .ok (.iconst 0, 1) := by decide +kernel
theorem dX7_liftsOf_15 : decode cX7_liftsOf 15 = .ok (.istore 4, 2) := by decide +kernel
theorem dX7_liftsOf_17 : decode cX7_liftsOf 17 = .ok (.iload 4, 2) := by decide +kernel
theorem dX7_liftsOf_19 : decode cX7_liftsOf 19 = .ok (.aload_n 0, 1) := by decide +kernel
theorem dX7_liftsOf_20 : decode cX7_liftsOf 20 = .ok (.getfield 97, 3) := by decide +kernel
theorem dX7_liftsOf_23 : decode cX7_liftsOf 23 = .ok (.if_icmp .ge 19, 3) := by decide +kernel
theorem dX7_liftsOf_26 : decode cX7_liftsOf 26 = .ok (.aload_n 0, 1) := by decide +kernel
theorem dX7_liftsOf_27 : decode cX7_liftsOf 27 = .ok (.iload 4, 2) := by decide +kernel
theorem dX7_liftsOf_29 : decode cX7_liftsOf 29 = .ok (.iload_n 1, 1) := by decide +kernel
theorem dX7_liftsOf_30 : decode cX7_liftsOf 30 = .ok (.invokevirtual 189, 3) := by decide +kernel
theorem dX7_liftsOf_33 : decode cX7_liftsOf 33 = .ok (.ifCond .ne 9, 3) := by decide +kernel
theorem dX7_liftsOf_36 : decode cX7_liftsOf 36 = .ok (.iinc 4 1, 3) := by decide +kernel
theorem dX7_liftsOf_39 : decode cX7_liftsOf 39 = .ok (.goto (-22), 3) := by decide +kernel
theorem dX7_liftsOf_42 : decode cX7_liftsOf 42 = .ok (.iload 4, 2) := by decide +kernel
theorem dX7_liftsOf_44 : decode cX7_liftsOf 44 = .ok (.aload_n 0, 1) := by decide +kernel
theorem dX7_liftsOf_45 : decode cX7_liftsOf 45 = .ok (.getfield 97, 3) := by decide +kernel
theorem dX7_liftsOf_48 : decode cX7_liftsOf 48 = .ok (.if_icmp .ge 12, 3) := by decide +kernel
theorem dX7_liftsOf_51 : decode cX7_liftsOf 51 = .ok (.aload_n 0, 1) := by decide +kernel
theorem dX7_liftsOf_52 : decode cX7_liftsOf 52 = .ok (.iload 4, 2) := by decide +kernel
theorem dX7_liftsOf_54 : decode cX7_liftsOf 54 = .ok (.invokevirtual 192, 3) := by decide +kernel
theorem dX7_liftsOf_57 : decode cX7_liftsOf 57 = .ok (.iinc 2 1, 3) := by decide +kernel
theorem dX7_liftsOf_60 : decode cX7_liftsOf 60 = .ok (.iinc 3 1, 3) := by decide +kernel
theorem dX7_liftsOf_63 : decode cX7_liftsOf 63 = .ok (.goto (-59), 3) := by decide +kernel
theorem dX7_liftsOf_66 : decode cX7_liftsOf 66 = .ok (.iload_n 2, 1) := by decide +kernel
theorem dX7_liftsOf_67 : decode cX7_liftsOf 67 = .ok (.ireturn, 1) := by decide +kernel
def pX7_liftsOf_b60 (K4 : Int32 → Int32 → Int32 → St → Option (Int32 × St)) (x1 : Int32) (x2 : Int32) (x3 : Int32) (v : St) : Option (Int32 × St) := K4 x1 x2 (x3 + 1) v
def pX7_liftsOf_b42 (K4 : Int32 → Int32 → Int32 → St → Option (Int32 × St)) (x1 : Int32) (x2 : Int32) (x3 : Int32) (x4 : Int32) (v : St) : Option (Int32 × St) := if (v.2 6) ≤ x4 then (pX7_liftsOf_b60 K4 x1 x2 x3 v) else (bnd (pX7_does x4 v) (fun r5 w6 => pX7_liftsOf_b60 K4 x1 (x2 + 1) x3 w6))
def pX7_liftsOf_b17 (K4 : Int32 → Int32 → Int32 → St → Option (Int32 × St)) (n : Nat) : Int32 → Int32 → Int32 → Int32 → St → Option (Int32 × St) := Nat.rec (fun _ _ _ _ _ => none) (fun _ K17 x1 x2 x3 x4 v => if (v.2 6) ≤ x4 then (pX7_liftsOf_b42 K4 x1 x2 x3 x4 v) else (bnd (pX7_isDoable x4 x1 v) (fun r8 w9 => if r8 = 0 then (K17 x1 x2 x3 (x4 + 1) w9) else (pX7_liftsOf_b42 K4 x1 x2 x3 x4 w9)))) n
def pX7_liftsOf_b4  (n : Nat) : Int32 → Int32 → Int32 → St → Option (Int32 × St) := Nat.rec (fun _ _ _ _ => none) (fun _ K4 x1 x2 x3 v => if (x1 < 0 ∨ 2 ≤ x1.toNatClampNeg) then none else (if (v.1 17 x1.toNatClampNeg) ≤ x3 then (some (x2, v)) else (pX7_liftsOf_b17 K4 100 x1 x2 x3 0 v))) n
def pX7_liftsOf (a1 : Int32) (u : St) : Option (Int32 × St) := pX7_liftsOf_b4 100 a1 0 0 u
set_option maxHeartbeats 4000000 in
set_option maxRecDepth 20000 in
theorem kX7_liftsOf {l : Launch} {D : va_G} {Y : Nat → ClassId} {q : Nat → Nat} {a1 : Int32} {u u1 : St} {r : Int32} (hX : pX7_liftsOf a1 u = some (r, u1)) : CMi l yX7_liftsOf cX7_liftsOf 5 (some .int) 5 119 D Y (wM Y q u) (wM Y q u1) [.ref (q 0), .int a1] r := by
  refine cm_ofi (by decide) (Nat.le_of_ble_eq_true rfl) rfl (fun p e s m args below meth c A F hr hlk => ?_)
  show GW p l e { frames := 5, cells := 0, slots := 0, locals := 119 } s m args below meth c D A 5 0 0 (MQ below (QI D (wM Y q u1) r A) args s 0 0 A) (wM Y q u) 0 [(0, .ref (q 0)), (1, .int a1)] []
  have b60 : ∀ (K4 : Int32 → Int32 → Int32 → St → Option (Int32 × St)) (hK4 : ∀ (x1 : Int32) (x2 : Int32) (x3 : Int32) (v : St), K4 x1 x2 x3 v = some (r, u1) → GW p l e { frames := 5, cells := 0, slots := 0, locals := 119 } s m args below meth c D A 5 0 0 (MQ below (QI D (wM Y q u1) r A) args s 0 0 A) (wM Y q v) 4 [(0, .ref (q 0)), (1, .int x1), (2, .int x2), (3, .int x3)] []) (x1 : Int32) (x2 : Int32) (x3 : Int32) (v : St), pX7_liftsOf_b60 K4 x1 x2 x3 v = some (r, u1) → GW p l e { frames := 5, cells := 0, slots := 0, locals := 119 } s m args below meth c D A 5 0 0 (MQ below (QI D (wM Y q u1) r A) args s 0 0 A) (wM Y q v) 60 [(0, .ref (q 0)), (1, .int x1), (2, .int x2), (3, .int x3)] [] := by
    intro K4 hK4 x1 x2 x3 v hX
    have hX : (K4 x1 x2 (x3 + 1) v) = some (r, u1) := hX
    refine g_iinc (v := x3 + 1) (lv' := [(3, .int (x3 + 1)), (0, .ref (q 0)), (1, .int x1), (2, .int x2)]) F dX7_liftsOf_60 3 rfl rfl (by decide) rfl ?_
    refine g_goto (tgt := 4) F dX7_liftsOf_63 (by decide) ?_
    refine g_sub [1, 2, 3, 0] rfl ?_
    exact hK4 x1 x2 (x3 + 1) v hX
  have b42 : ∀ (K4 : Int32 → Int32 → Int32 → St → Option (Int32 × St)) (hK4 : ∀ (x1 : Int32) (x2 : Int32) (x3 : Int32) (v : St), K4 x1 x2 x3 v = some (r, u1) → GW p l e { frames := 5, cells := 0, slots := 0, locals := 119 } s m args below meth c D A 5 0 0 (MQ below (QI D (wM Y q u1) r A) args s 0 0 A) (wM Y q v) 4 [(0, .ref (q 0)), (1, .int x1), (2, .int x2), (3, .int x3)] []) (x1 : Int32) (x2 : Int32) (x3 : Int32) (x4 : Int32) (v : St), pX7_liftsOf_b42 K4 x1 x2 x3 x4 v = some (r, u1) → GW p l e { frames := 5, cells := 0, slots := 0, locals := 119 } s m args below meth c D A 5 0 0 (MQ below (QI D (wM Y q u1) r A) args s 0 0 A) (wM Y q v) 42 [(0, .ref (q 0)), (1, .int x1), (2, .int x2), (3, .int x3), (4, .int x4)] [] := by
    intro K4 hK4 x1 x2 x3 x4 v hX
    have hX : (if (v.2 6) ≤ x4 then (pX7_liftsOf_b60 K4 x1 x2 x3 v) else (bnd (pX7_does x4 v) (fun r5 w6 => pX7_liftsOf_b60 K4 x1 (x2 + 1) x3 w6))) = some (r, u1) := hX
    refine g_iload F dX7_liftsOf_42 4 rfl ?_
    refine g_aload_n F dX7_liftsOf_44 0 rfl rfl ?_
    refine G_X7_97 F dX7_liftsOf_45 ?_
    refine g_icmp_ge (tgt := 60) F dX7_liftsOf_48 (by decide) (fun c4 => ?_) (fun c4 => ?_)
    · have hX := if_t hX c4
      refine g_sub [0, 1, 2, 3] rfl ?_
      exact b60 K4 hK4 x1 x2 x3 v hX
    · have hX := if_f hX c4
      refine g_aload_n F dX7_liftsOf_51 0 rfl rfl ?_
      refine g_iload F dX7_liftsOf_52 4 rfl ?_
      obtain ⟨r5, w6, hc7, hX⟩ := bnd_s hX
      refine callX7_does F hc7 ml_X7_192 ⟨Nat.le_of_ble_eq_true rfl, Nat.le_of_ble_eq_true rfl⟩ (Nat.le_of_ble_eq_true rfl) dX7_liftsOf_54 ?_
      refine g_iinc (v := x2 + 1) (lv' := [(2, .int (x2 + 1)), (0, .ref (q 0)), (1, .int x1), (3, .int x3), (4, .int x4)]) F dX7_liftsOf_57 2 rfl rfl (by decide) rfl ?_
      refine g_sub [1, 2, 0, 3] rfl ?_
      exact b60 K4 hK4 x1 (x2 + 1) x3 w6 hX
  have b17 : ∀ (K4 : Int32 → Int32 → Int32 → St → Option (Int32 × St)) (hK4 : ∀ (x1 : Int32) (x2 : Int32) (x3 : Int32) (v : St), K4 x1 x2 x3 v = some (r, u1) → GW p l e { frames := 5, cells := 0, slots := 0, locals := 119 } s m args below meth c D A 5 0 0 (MQ below (QI D (wM Y q u1) r A) args s 0 0 A) (wM Y q v) 4 [(0, .ref (q 0)), (1, .int x1), (2, .int x2), (3, .int x3)] []) (n : Nat) (x1 : Int32) (x2 : Int32) (x3 : Int32) (x4 : Int32) (v : St), pX7_liftsOf_b17 K4 n x1 x2 x3 x4 v = some (r, u1) → GW p l e { frames := 5, cells := 0, slots := 0, locals := 119 } s m args below meth c D A 5 0 0 (MQ below (QI D (wM Y q u1) r A) args s 0 0 A) (wM Y q v) 17 [(0, .ref (q 0)), (1, .int x1), (2, .int x2), (3, .int x3), (4, .int x4)] [] := by
    intro K4 hK4 n
    induction n with
    | zero => intro x1 x2 x3 x4 v hX; cases hX
    | succ n ih =>
      intro x1 x2 x3 x4 v hX
      obtain ⟨K17, eK⟩ : ∃ K : Int32 → Int32 → Int32 → Int32 → St → Option (Int32 × St), K = pX7_liftsOf_b17 K4 n := ⟨_, rfl⟩
      have hK17 : ∀ (x1 : Int32) (x2 : Int32) (x3 : Int32) (x4 : Int32) (v : St), K17 x1 x2 x3 x4 v = some (r, u1) → GW p l e { frames := 5, cells := 0, slots := 0, locals := 119 } s m args below meth c D A 5 0 0 (MQ below (QI D (wM Y q u1) r A) args s 0 0 A) (wM Y q v) 17 [(0, .ref (q 0)), (1, .int x1), (2, .int x2), (3, .int x3), (4, .int x4)] [] := by rw [eK]; exact ih
      have hX : (if (v.2 6) ≤ x4 then (pX7_liftsOf_b42 K4 x1 x2 x3 x4 v) else (bnd (pX7_isDoable x4 x1 v) (fun r8 w9 => if r8 = 0 then (K17 x1 x2 x3 (x4 + 1) w9) else (pX7_liftsOf_b42 K4 x1 x2 x3 x4 w9)))) = some (r, u1) := by rw [eK]; exact hX
      refine g_iload F dX7_liftsOf_17 4 rfl ?_
      refine g_aload_n F dX7_liftsOf_19 0 rfl rfl ?_
      refine G_X7_97 F dX7_liftsOf_20 ?_
      refine g_icmp_ge (tgt := 42) F dX7_liftsOf_23 (by decide) (fun c3 => ?_) (fun c3 => ?_)
      · have hX := if_t hX c3
        exact b42 K4 hK4 x1 x2 x3 x4 v hX
      · have hX := if_f hX c3
        refine g_aload_n F dX7_liftsOf_26 0 rfl rfl ?_
        refine g_iload F dX7_liftsOf_27 4 rfl ?_
        refine g_iload_n F dX7_liftsOf_29 1 rfl rfl ?_
        obtain ⟨r8, w9, hc10, hX⟩ := bnd_s hX
        refine callX7_isDoable F hc10 ml_X7_189 ⟨Nat.le_of_ble_eq_true rfl, Nat.le_of_ble_eq_true rfl⟩ (Nat.le_of_ble_eq_true rfl) dX7_liftsOf_30 ?_
        refine g_if_ne (tgt := 42) F dX7_liftsOf_33 (by decide) (fun c11 => ?_) (fun c11 => ?_)
        · have hX := if_f hX c11
          exact b42 K4 hK4 x1 x2 x3 x4 w9 hX
        · have hX := if_t hX c11
          refine g_iinc (v := x4 + 1) (lv' := [(4, .int (x4 + 1)), (0, .ref (q 0)), (1, .int x1), (2, .int x2), (3, .int x3)]) F dX7_liftsOf_36 4 rfl rfl (by decide) rfl ?_
          refine g_goto (tgt := 17) F dX7_liftsOf_39 (by decide) ?_
          refine g_sub [1, 2, 3, 4, 0] rfl ?_
          exact hK17 x1 x2 x3 (x4 + 1) w9 hX
  have b4 : ∀  (n : Nat) (x1 : Int32) (x2 : Int32) (x3 : Int32) (v : St), pX7_liftsOf_b4  n x1 x2 x3 v = some (r, u1) → GW p l e { frames := 5, cells := 0, slots := 0, locals := 119 } s m args below meth c D A 5 0 0 (MQ below (QI D (wM Y q u1) r A) args s 0 0 A) (wM Y q v) 4 [(0, .ref (q 0)), (1, .int x1), (2, .int x2), (3, .int x3)] [] := by
    intro  n
    induction n with
    | zero => intro x1 x2 x3 v hX; cases hX
    | succ n ih =>
      intro x1 x2 x3 v hX
      obtain ⟨K4, eK⟩ : ∃ K : Int32 → Int32 → Int32 → St → Option (Int32 × St), K = pX7_liftsOf_b4  n := ⟨_, rfl⟩
      have hK4 : ∀ (x1 : Int32) (x2 : Int32) (x3 : Int32) (v : St), K4 x1 x2 x3 v = some (r, u1) → GW p l e { frames := 5, cells := 0, slots := 0, locals := 119 } s m args below meth c D A 5 0 0 (MQ below (QI D (wM Y q u1) r A) args s 0 0 A) (wM Y q v) 4 [(0, .ref (q 0)), (1, .int x1), (2, .int x2), (3, .int x3)] [] := by rw [eK]; exact ih
      have hX : (if (x1 < 0 ∨ 2 ≤ x1.toNatClampNeg) then none else (if (v.1 17 x1.toNatClampNeg) ≤ x3 then (some (x2, v)) else (pX7_liftsOf_b17 K4 100 x1 x2 x3 0 v))) = some (r, u1) := by rw [eK]; exact hX
      refine g_iload_n F dX7_liftsOf_4 3 rfl rfl ?_
      refine g_aload_n F dX7_liftsOf_5 0 rfl rfl ?_
      refine G_X7_72 F dX7_liftsOf_6 ?_
      refine g_iload_n F dX7_liftsOf_9 1 rfl rfl ?_
      obtain ⟨hI1, hX⟩ := inb hX
      refine AL_17 F hI1 dX7_liftsOf_10 ?_
      refine g_icmp_ge (tgt := 66) F dX7_liftsOf_11 (by decide) (fun c2 => ?_) (fun c2 => ?_)
      · have hX := if_t hX c2
        refine g_iload_n F dX7_liftsOf_66 2 rfl rfl ?_
        exact g_retC (wf := wM Y q) F hr rfl hlk dX7_liftsOf_67 hX
      · have hX := if_f hX c2
        refine g_iconst (v := 0) F dX7_liftsOf_14 (by decide) ?_
        refine g_istore (lv' := [(4, .int 0), (0, .ref (q 0)), (1, .int x1), (2, .int x2), (3, .int x3)]) F dX7_liftsOf_15 (by decide) rfl ?_
        refine g_sub [1, 2, 3, 4, 0] rfl ?_
        exact b17 K4 hK4 100 x1 x2 x3 0 v hX
  have hX : (pX7_liftsOf_b4 100 a1 0 0 u) = some (r, u1) := hX
  refine g_iconst (v := 0) F dX7_liftsOf_0 (by decide) ?_
  refine g_istore_n (lv' := [(2, .int 0), (0, .ref (q 0)), (1, .int a1)]) F dX7_liftsOf_1 rfl (by decide) rfl ?_
  refine g_iconst (v := 0) F dX7_liftsOf_2 (by decide) ?_
  refine g_istore_n (lv' := [(3, .int 0), (2, .int 0), (0, .ref (q 0)), (1, .int a1)]) F dX7_liftsOf_3 rfl (by decide) rfl ?_
  refine g_sub [2, 3, 1, 0] rfl ?_
  exact b4 100 a1 0 0 u hX
theorem callX7_liftsOf {p : Program} {l : Launch} {e : Env} {R : Room} {s : State} {m : MethodId} {args : Array Value} {below : List Frame} {meth : Method} {c : Code} {D : va_G} {Y : Nat → ClassId} {A : Nat → Prop} {cc : ByteArray} {nL : Nat} {own : String} {Q : State → Prop} {pc : Nat} {lv : List (Nat × Value)} {rest : List Value} {q : Nat → Nat} {a1 : Int32} {u u1 : St} {r : Int32} (F : Fx p s m args c D Y A cc nL own) (hX : pX7_liftsOf a1 u = some (r, u1)) {index : Nat} (hml : Cond.methodLink own index yX7_liftsOf ∈ TBL) (hR : 5 + 1 ≤ R.frames ∧ 8 + (5 + 11) + 119 ≤ R.locals) (hcat : (rest.map fun v => v.category).sum ≤ 8) (hd : decode cc pc = .ok (.invokevirtual index, 3)) (kk : GW p l e R s m args below meth c D A nL 0 0 Q (wM Y q u1) (pc + 3) lv (.int r :: rest)) : GW p l e R s m args below meth c D A nL 0 0 Q (wM Y q u) pc lv (.int a1 :: .ref (q 0) :: rest) := g_callVi (ws := wM Y q u) (n := 1) (q0 := 0) (As := [.int a1]) F [] [] (kX7_liftsOf hX) (List.append_nil _).symm (List.append_nil _) (by unfold mOK; decide +kernel) rfl rfl cd_yX7_liftsOf hml im_yX7_liftsOf se_yX7_liftsOf in_X7 rfl rfl hR ⟨Nat.zero_le _, Nat.zero_le _⟩ rfl hcat hd kk
theorem dX7_liesOn_0 : decode cX7_liesOn 0 = .ok (.aload_n 0, 1) := by decide +kernel
theorem dX7_liesOn_1 : decode cX7_liesOn 1 = .ok (.getfield 51, 3) := by decide +kernel
theorem dX7_liesOn_4 : decode cX7_liesOn 4 = .ok (.iload_n 1, 1) := by decide +kernel
theorem dX7_liesOn_5 : decode cX7_liesOn 5 = .ok (.iaload, 1) := by decide +kernel
theorem dX7_liesOn_6 : decode cX7_liesOn 6 = .ok (.iconst 1, 1) := by decide +kernel
theorem dX7_liesOn_7 : decode cX7_liesOn 7 = .ok (.if_icmp .ne 37, 3) := by decide +kernel
theorem dX7_liesOn_10 : decode cX7_liesOn 10 = .ok (.aload_n 0, 1) := by decide +kernel
theorem dX7_liesOn_11 : decode cX7_liesOn 11 = .ok (.getfield 54, 3) := by decide +kernel
theorem dX7_liesOn_14 : decode cX7_liesOn 14 = .ok (.iload_n 1, 1) := by decide +kernel
theorem dX7_liesOn_15 : decode cX7_liesOn 15 = .ok (.iaload, 1) := by decide +kernel
theorem dX7_liesOn_16 : decode cX7_liesOn 16 = .ok (.iconst 2, 1) := by decide +kernel
theorem dX7_liesOn_17 : decode cX7_liesOn 17 = .ok (.irem, 1) := by decide +kernel
theorem dX7_liesOn_18 : decode cX7_liesOn 18 = .ok (.ifCond .ne 24, 3) := by decide +kernel
theorem dX7_liesOn_21 : decode cX7_liesOn 21 = .ok (.aload_n 0, 1) := by decide +kernel
theorem dX7_liesOn_22 : decode cX7_liesOn 22 = .ok (.getfield 7, 3) := by decide +kernel
theorem dX7_liesOn_25 : decode cX7_liesOn 25 = .ok (.aload_n 0, 1) := by decide +kernel
theorem dX7_liesOn_26 : decode cX7_liesOn 26 = .ok (.getfield 54, 3) := by decide +kernel
theorem dX7_liesOn_29 : decode cX7_liesOn 29 = .ok (.iload_n 1, 1) := by decide +kernel
theorem dX7_liesOn_30 : decode cX7_liesOn 30 = .ok (.iaload, 1) := by decide +kernel
theorem dX7_liesOn_31 : decode cX7_liesOn 31 = .ok (.iconst 1, 1) := by decide +kernel
theorem dX7_liesOn_32 : decode cX7_liesOn 32 = .ok (.iadd, 1) := by decide +kernel
theorem dX7_liesOn_33 : decode cX7_liesOn 33 = .ok (.iaload, 1) := by decide +kernel
theorem dX7_liesOn_34 : decode cX7_liesOn 34 = .ok (.iconst (-1), 1) := by decide +kernel
theorem dX7_liesOn_35 : decode cX7_liesOn 35 = .ok (.if_icmp .eq 7, 3) := by decide +kernel
theorem dX7_liesOn_38 : decode cX7_liesOn 38 = .ok (.iconst 1, 1) := by decide +kernel
theorem dX7_liesOn_39 : decode cX7_liesOn 39 = .ok (.goto 4, 3) := by decide +kernel
theorem dX7_liesOn_42 : decode cX7_liesOn 42 = .ok (.iconst 0, 1) := by decide +kernel
theorem dX7_liesOn_43 : decode cX7_liesOn 43 = .ok (.ireturn, 1) := by decide +kernel
theorem dX7_liesOn_44 : decode cX7_liesOn 44 = .ok (.iconst 0, 1) := by decide +kernel
theorem dX7_liesOn_45 : decode cX7_liesOn 45 = .ok (.istore_n 2, 1) := by decide +kernel
theorem dX7_liesOn_46 : decode cX7_liesOn 46 = .ok (.aload_n 0, 1) := by decide +kernel
theorem dX7_liesOn_47 : decode cX7_liesOn 47 = .ok (.getfield 51, 3) := by decide +kernel
theorem dX7_liesOn_50 : decode cX7_liesOn 50 = .ok (.iload_n 1, 1) := by decide +kernel
theorem dX7_liesOn_51 : decode cX7_liesOn 51 = .ok (.iaload, 1) := by decide +kernel
theorem dX7_liesOn_52 : decode cX7_liesOn 52 = .ok (.ifCond .ne 45, 3) := by decide +kernel
theorem dX7_liesOn_55 : decode cX7_liesOn 55 = .ok (.aload_n 0, 1) := by decide +kernel
theorem dX7_liesOn_56 : decode cX7_liesOn 56 = .ok (.getfield 57, 3) := by decide +kernel
theorem dX7_liesOn_59 : decode cX7_liesOn 59 = .ok (.aload_n 0, 1) := by decide +kernel
theorem dX7_liesOn_60 : decode cX7_liesOn 60 = .ok (.getfield 54, 3) := by decide +kernel
theorem dX7_liesOn_63 : decode cX7_liesOn 63 = .ok (.iload_n 1, 1) := by decide +kernel
theorem dX7_liesOn_64 : decode cX7_liesOn 64 = .ok (.iaload, 1) := by decide +kernel
theorem dX7_liesOn_65 : decode cX7_liesOn 65 = .ok (.iaload, 1) := by decide +kernel
theorem dX7_liesOn_66 : decode cX7_liesOn 66 = .ok (.iconst 1, 1) := by decide +kernel
theorem dX7_liesOn_67 : decode cX7_liesOn 67 = .ok (.isub, 1) := by decide +kernel
theorem dX7_liesOn_68 : decode cX7_liesOn 68 = .ok (.istore_n 3, 1) := by decide +kernel
theorem dX7_liesOn_69 : decode cX7_liesOn 69 = .ok (.aload_n 0, 1) := by decide +kernel
theorem dX7_liesOn_70 : decode cX7_liesOn 70 = .ok (.getfield 60, 3) := by decide +kernel
theorem dX7_liesOn_73 : decode cX7_liesOn 73 = .ok (.iconst 4, 1) := by decide +kernel
theorem dX7_liesOn_74 : decode cX7_liesOn 74 = .ok (.aload_n 0, 1) := by decide +kernel
theorem dX7_liesOn_75 : decode cX7_liesOn 75 = .ok (.getfield 54, 3) := by decide +kernel
theorem dX7_liesOn_78 : decode cX7_liesOn 78 = .ok (.iload_n 1, 1) := by decide +kernel
theorem dX7_liesOn_79 : decode cX7_liesOn 79 = .ok (.iaload, 1) := by decide +kernel
theorem dX7_liesOn_80 : decode cX7_liesOn 80 = .ok (.imul, 1) := by decide +kernel
theorem dX7_liesOn_81 : decode cX7_liesOn 81 = .ok (.iload_n 3, 1) := by decide +kernel
theorem dX7_liesOn_82 : decode cX7_liesOn 82 = .ok (.iadd, 1) := by decide +kernel
theorem dX7_liesOn_83 : decode cX7_liesOn 83 = .ok (.iaload, 1) := by decide +kernel
theorem dX7_liesOn_84 : decode cX7_liesOn 84 = .ok (.iload_n 1, 1) := by decide +kernel
theorem dX7_liesOn_85 : decode cX7_liesOn 85 = .ok (.if_icmp .eq 12, 3) := by decide +kernel
theorem dX7_liesOn_88 : decode cX7_liesOn 88 = .ok (.iinc 2 1, 3) := by decide +kernel
theorem dX7_liesOn_91 : decode cX7_liesOn 91 = .ok (.iinc 3 (-1), 3) := by decide +kernel
theorem dX7_liesOn_94 : decode cX7_liesOn 94 = .ok (.goto (-25), 3) := by decide +kernel
theorem dX7_liesOn_97 : decode cX7_liesOn 97 = .ok (.iload_n 2, 1) := by decide +kernel
theorem dX7_liesOn_98 : decode cX7_liesOn 98 = .ok (.ireturn, 1) := by decide +kernel
def pX7_liesOn_b97  (x2 : Int32) (v : St) : Option (Int32 × St) := some (x2, v)
def pX7_liesOn_b69  (n : Nat) : Int32 → Int32 → Int32 → St → Option (Int32 × St) := Nat.rec (fun _ _ _ _ => none) (fun _ K69 x1 x2 x3 v => if (x1 < 0 ∨ 60 ≤ x1.toNatClampNeg) then none else (if ((4 * (v.1 11 x1.toNatClampNeg)) + x3 < 0 ∨ 40 ≤ ((4 * (v.1 11 x1.toNatClampNeg)) + x3).toNatClampNeg) then none else (if (v.1 13 ((4 * (v.1 11 x1.toNatClampNeg)) + x3).toNatClampNeg) = x1 then (pX7_liesOn_b97 x2 v) else (K69 x1 (x2 + 1) (x3 + (-1)) v)))) n
def pX7_liesOn_b42   (v : St) : Option (Int32 × St) := some (0, v)
def pX7_liesOn (a1 : Int32) (u : St) : Option (Int32 × St) := if (a1 < 0 ∨ 60 ≤ a1.toNatClampNeg) then none else (if (u.1 10 a1.toNatClampNeg) = 1 then (if (a1 < 0 ∨ 60 ≤ a1.toNatClampNeg) then none else (if ((u.1 11 a1.toNatClampNeg) - (u.1 11 a1.toNatClampNeg) / 2 * 2) = 0 then (if (a1 < 0 ∨ 60 ≤ a1.toNatClampNeg) then none else (if ((u.1 11 a1.toNatClampNeg) + 1 < 0 ∨ 72 ≤ ((u.1 11 a1.toNatClampNeg) + 1).toNatClampNeg) then none else (if (u.1 0 ((u.1 11 a1.toNatClampNeg) + 1).toNatClampNeg) = ((-1)) then (pX7_liesOn_b42 u) else (some (1, u))))) else (pX7_liesOn_b42 u))) else (if (a1 < 0 ∨ 60 ≤ a1.toNatClampNeg) then none else (if (u.1 10 a1.toNatClampNeg) = 0 then (if (a1 < 0 ∨ 60 ≤ a1.toNatClampNeg) then none else (if (u.1 11 a1.toNatClampNeg < 0 ∨ 10 ≤ (u.1 11 a1.toNatClampNeg).toNatClampNeg) then none else (pX7_liesOn_b69 100 a1 0 ((u.1 12 (u.1 11 a1.toNatClampNeg).toNatClampNeg) - 1) u))) else (pX7_liesOn_b97 0 u))))
set_option maxHeartbeats 4000000 in
set_option maxRecDepth 20000 in
theorem kX7_liesOn {l : Launch} {D : va_G} {Y : Nat → ClassId} {q : Nat → Nat} {a1 : Int32} {u u1 : St} {r : Int32} (hX : pX7_liesOn a1 u = some (r, u1)) : CMi l yX7_liesOn cX7_liesOn 4 (some .int) 0 0 D Y (wM Y q u) (wM Y q u1) [.ref (q 0), .int a1] r := by
  refine cm_ofi (by decide) (Nat.le_of_ble_eq_true rfl) rfl (fun p e s m args below meth c A F hr hlk => ?_)
  show GW p l e { frames := 0, cells := 0, slots := 0, locals := 0 } s m args below meth c D A 4 0 0 (MQ below (QI D (wM Y q u1) r A) args s 0 0 A) (wM Y q u) 0 [(0, .ref (q 0)), (1, .int a1)] []
  have b97 : ∀  (x2 : Int32) (v : St), pX7_liesOn_b97  x2 v = some (r, u1) → GW p l e { frames := 0, cells := 0, slots := 0, locals := 0 } s m args below meth c D A 4 0 0 (MQ below (QI D (wM Y q u1) r A) args s 0 0 A) (wM Y q v) 97 [(2, .int x2)] [] := by
    intro  x2 v hX
    have hX : (some (x2, v)) = some (r, u1) := hX
    refine g_iload_n F dX7_liesOn_97 0 rfl rfl ?_
    exact g_retC (wf := wM Y q) F hr rfl hlk dX7_liesOn_98 hX
  have b69 : ∀  (n : Nat) (x1 : Int32) (x2 : Int32) (x3 : Int32) (v : St), pX7_liesOn_b69  n x1 x2 x3 v = some (r, u1) → GW p l e { frames := 0, cells := 0, slots := 0, locals := 0 } s m args below meth c D A 4 0 0 (MQ below (QI D (wM Y q u1) r A) args s 0 0 A) (wM Y q v) 69 [(0, .ref (q 0)), (1, .int x1), (2, .int x2), (3, .int x3)] [] := by
    intro  n
    induction n with
    | zero => intro x1 x2 x3 v hX; cases hX
    | succ n ih =>
      intro x1 x2 x3 v hX
      obtain ⟨K69, eK⟩ : ∃ K : Int32 → Int32 → Int32 → St → Option (Int32 × St), K = pX7_liesOn_b69  n := ⟨_, rfl⟩
      have hK69 : ∀ (x1 : Int32) (x2 : Int32) (x3 : Int32) (v : St), K69 x1 x2 x3 v = some (r, u1) → GW p l e { frames := 0, cells := 0, slots := 0, locals := 0 } s m args below meth c D A 4 0 0 (MQ below (QI D (wM Y q u1) r A) args s 0 0 A) (wM Y q v) 69 [(0, .ref (q 0)), (1, .int x1), (2, .int x2), (3, .int x3)] [] := by rw [eK]; exact ih
      have hX : (if (x1 < 0 ∨ 60 ≤ x1.toNatClampNeg) then none else (if ((4 * (v.1 11 x1.toNatClampNeg)) + x3 < 0 ∨ 40 ≤ ((4 * (v.1 11 x1.toNatClampNeg)) + x3).toNatClampNeg) then none else (if (v.1 13 ((4 * (v.1 11 x1.toNatClampNeg)) + x3).toNatClampNeg) = x1 then (pX7_liesOn_b97 x2 v) else (K69 x1 (x2 + 1) (x3 + (-1)) v)))) = some (r, u1) := by rw [eK]; exact hX
      refine g_aload_n F dX7_liesOn_69 0 rfl rfl ?_
      refine G_X7_60 F dX7_liesOn_70 ?_
      refine g_iconst (v := 4) F dX7_liesOn_73 (by decide) ?_
      refine g_aload_n F dX7_liesOn_74 0 rfl rfl ?_
      refine G_X7_54 F dX7_liesOn_75 ?_
      refine g_iload_n F dX7_liesOn_78 1 rfl rfl ?_
      obtain ⟨hI7, hX⟩ := inb hX
      refine AL_11 F hI7 dX7_liesOn_79 ?_
      refine g_imul F dX7_liesOn_80 ?_
      refine g_iload_n F dX7_liesOn_81 3 rfl rfl ?_
      refine g_iadd F dX7_liesOn_82 ?_
      obtain ⟨hI8, hX⟩ := inb hX
      refine AL_13 F hI8 dX7_liesOn_83 ?_
      refine g_iload_n F dX7_liesOn_84 1 rfl rfl ?_
      refine g_icmp_eq (tgt := 97) F dX7_liesOn_85 (by decide) (fun c9 => ?_) (fun c9 => ?_)
      · have hX := if_t hX c9
        refine g_sub [2] rfl ?_
        exact b97 x2 v hX
      · have hX := if_f hX c9
        refine g_iinc (v := x2 + 1) (lv' := [(2, .int (x2 + 1)), (0, .ref (q 0)), (1, .int x1), (3, .int x3)]) F dX7_liesOn_88 2 rfl rfl (by decide) rfl ?_
        refine g_iinc (v := x3 + (-1)) (lv' := [(3, .int (x3 + (-1))), (2, .int (x2 + 1)), (0, .ref (q 0)), (1, .int x1)]) F dX7_liesOn_91 3 rfl rfl (by decide) rfl ?_
        refine g_goto (tgt := 69) F dX7_liesOn_94 (by decide) ?_
        refine g_sub [2, 3, 1, 0] rfl ?_
        exact hK69 x1 (x2 + 1) (x3 + (-1)) v hX
  have b42 : ∀   (v : St), pX7_liesOn_b42  v = some (r, u1) → GW p l e { frames := 0, cells := 0, slots := 0, locals := 0 } s m args below meth c D A 4 0 0 (MQ below (QI D (wM Y q u1) r A) args s 0 0 A) (wM Y q v) 42 [] [] := by
    intro  v hX
    have hX : (some (0, v)) = some (r, u1) := hX
    refine g_iconst (v := 0) F dX7_liesOn_42 (by decide) ?_
    exact g_retC (wf := wM Y q) F hr rfl hlk dX7_liesOn_43 hX
  have hX : (if (a1 < 0 ∨ 60 ≤ a1.toNatClampNeg) then none else (if (u.1 10 a1.toNatClampNeg) = 1 then (if (a1 < 0 ∨ 60 ≤ a1.toNatClampNeg) then none else (if ((u.1 11 a1.toNatClampNeg) - (u.1 11 a1.toNatClampNeg) / 2 * 2) = 0 then (if (a1 < 0 ∨ 60 ≤ a1.toNatClampNeg) then none else (if ((u.1 11 a1.toNatClampNeg) + 1 < 0 ∨ 72 ≤ ((u.1 11 a1.toNatClampNeg) + 1).toNatClampNeg) then none else (if (u.1 0 ((u.1 11 a1.toNatClampNeg) + 1).toNatClampNeg) = ((-1)) then (pX7_liesOn_b42 u) else (some (1, u))))) else (pX7_liesOn_b42 u))) else (if (a1 < 0 ∨ 60 ≤ a1.toNatClampNeg) then none else (if (u.1 10 a1.toNatClampNeg) = 0 then (if (a1 < 0 ∨ 60 ≤ a1.toNatClampNeg) then none else (if (u.1 11 a1.toNatClampNeg < 0 ∨ 10 ≤ (u.1 11 a1.toNatClampNeg).toNatClampNeg) then none else (pX7_liesOn_b69 100 a1 0 ((u.1 12 (u.1 11 a1.toNatClampNeg).toNatClampNeg) - 1) u))) else (pX7_liesOn_b97 0 u))))) = some (r, u1) := hX
  refine g_aload_n F dX7_liesOn_0 0 rfl rfl ?_
  refine G_X7_51 F dX7_liesOn_1 ?_
  refine g_iload_n F dX7_liesOn_4 1 rfl rfl ?_
  obtain ⟨hI1, hX⟩ := inb hX
  refine AL_10 F hI1 dX7_liesOn_5 ?_
  refine g_iconst (v := 1) F dX7_liesOn_6 (by decide) ?_
  refine g_icmp_ne (tgt := 44) F dX7_liesOn_7 (by decide) (fun c2 => ?_) (fun c2 => ?_)
  · have hX := if_f hX c2
    refine g_iconst (v := 0) F dX7_liesOn_44 (by decide) ?_
    refine g_istore_n (lv' := [(2, .int 0), (0, .ref (q 0)), (1, .int a1)]) F dX7_liesOn_45 rfl (by decide) rfl ?_
    refine g_aload_n F dX7_liesOn_46 1 rfl rfl ?_
    refine G_X7_51 F dX7_liesOn_47 ?_
    refine g_iload_n F dX7_liesOn_50 2 rfl rfl ?_
    obtain ⟨hI3, hX⟩ := inb hX
    refine AL_10 F hI3 dX7_liesOn_51 ?_
    refine g_if_ne (tgt := 97) F dX7_liesOn_52 (by decide) (fun c4 => ?_) (fun c4 => ?_)
    · have hX := if_f hX c4
      refine g_sub [0] rfl ?_
      exact b97 0 u hX
    · have hX := if_t hX c4
      refine g_aload_n F dX7_liesOn_55 1 rfl rfl ?_
      refine G_X7_57 F dX7_liesOn_56 ?_
      refine g_aload_n F dX7_liesOn_59 1 rfl rfl ?_
      refine G_X7_54 F dX7_liesOn_60 ?_
      refine g_iload_n F dX7_liesOn_63 2 rfl rfl ?_
      obtain ⟨hI5, hX⟩ := inb hX
      refine AL_11 F hI5 dX7_liesOn_64 ?_
      obtain ⟨hI6, hX⟩ := inb hX
      refine AL_12 F hI6 dX7_liesOn_65 ?_
      refine g_iconst (v := 1) F dX7_liesOn_66 (by decide) ?_
      refine g_isub F dX7_liesOn_67 ?_
      refine g_istore_n (lv' := [(3, .int ((u.1 12 (u.1 11 a1.toNatClampNeg).toNatClampNeg) - 1)), (2, .int 0), (0, .ref (q 0)), (1, .int a1)]) F dX7_liesOn_68 rfl (by decide) rfl ?_
      refine g_sub [2, 3, 1, 0] rfl ?_
      exact b69 100 a1 0 ((u.1 12 (u.1 11 a1.toNatClampNeg).toNatClampNeg) - 1) u hX
  · have hX := if_t hX c2
    refine g_aload_n F dX7_liesOn_10 0 rfl rfl ?_
    refine G_X7_54 F dX7_liesOn_11 ?_
    refine g_iload_n F dX7_liesOn_14 1 rfl rfl ?_
    obtain ⟨hI10, hX⟩ := inb hX
    refine AL_11 F hI10 dX7_liesOn_15 ?_
    refine g_iconst (v := 2) F dX7_liesOn_16 (by decide) ?_
    refine g_irem F dX7_liesOn_17 (by decide) ?_
    refine g_if_ne (tgt := 42) F dX7_liesOn_18 (by decide) (fun c11 => ?_) (fun c11 => ?_)
    · have hX := if_f hX c11
      refine g_sub [] rfl ?_
      exact b42 u hX
    · have hX := if_t hX c11
      refine g_aload_n F dX7_liesOn_21 0 rfl rfl ?_
      refine G_X7_7 F dX7_liesOn_22 ?_
      refine g_aload_n F dX7_liesOn_25 0 rfl rfl ?_
      refine G_X7_54 F dX7_liesOn_26 ?_
      refine g_iload_n F dX7_liesOn_29 1 rfl rfl ?_
      obtain ⟨hI12, hX⟩ := inb hX
      refine AL_11 F hI12 dX7_liesOn_30 ?_
      refine g_iconst (v := 1) F dX7_liesOn_31 (by decide) ?_
      refine g_iadd F dX7_liesOn_32 ?_
      obtain ⟨hI13, hX⟩ := inb hX
      refine AL_0 F hI13 dX7_liesOn_33 ?_
      refine g_iconst (v := (-1)) F dX7_liesOn_34 (by decide) ?_
      refine g_icmp_eq (tgt := 42) F dX7_liesOn_35 (by decide) (fun c14 => ?_) (fun c14 => ?_)
      · have hX := if_t hX c14
        refine g_sub [] rfl ?_
        exact b42 u hX
      · have hX := if_f hX c14
        refine g_iconst (v := 1) F dX7_liesOn_38 (by decide) ?_
        refine g_goto (tgt := 43) F dX7_liesOn_39 (by decide) ?_
        exact g_retC (wf := wM Y q) F hr rfl hlk dX7_liesOn_43 hX
theorem callX7_liesOn {p : Program} {l : Launch} {e : Env} {R : Room} {s : State} {m : MethodId} {args : Array Value} {below : List Frame} {meth : Method} {c : Code} {D : va_G} {Y : Nat → ClassId} {A : Nat → Prop} {cc : ByteArray} {nL : Nat} {own : String} {Q : State → Prop} {pc : Nat} {lv : List (Nat × Value)} {rest : List Value} {q : Nat → Nat} {a1 : Int32} {u u1 : St} {r : Int32} (F : Fx p s m args c D Y A cc nL own) (hX : pX7_liesOn a1 u = some (r, u1)) {index : Nat} (hml : Cond.methodLink own index yX7_liesOn ∈ TBL) (hR : 0 + 1 ≤ R.frames ∧ 8 + (4 + 11) + 0 ≤ R.locals) (hcat : (rest.map fun v => v.category).sum ≤ 8) (hd : decode cc pc = .ok (.invokevirtual index, 3)) (kk : GW p l e R s m args below meth c D A nL 0 0 Q (wM Y q u1) (pc + 3) lv (.int r :: rest)) : GW p l e R s m args below meth c D A nL 0 0 Q (wM Y q u) pc lv (.int a1 :: .ref (q 0) :: rest) := g_callVi (ws := wM Y q u) (n := 1) (q0 := 0) (As := [.int a1]) F [] [] (kX7_liesOn hX) (List.append_nil _).symm (List.append_nil _) (by unfold mOK; decide +kernel) rfl rfl cd_yX7_liesOn hml im_yX7_liesOn se_yX7_liesOn in_X7 rfl rfl hR ⟨Nat.zero_le _, Nat.zero_le _⟩ rfl hcat hd kk
theorem dX7_momentOf_0 : decode cX7_momentOf 0 = .ok (.iconst 0, 1) := by decide +kernel
theorem dX7_momentOf_1 : decode cX7_momentOf 1 = .ok (.istore_n 2, 1) := by decide +kernel
theorem dX7_momentOf_2 : decode cX7_momentOf 2 = .ok (.iconst 0, 1) := by decide +kernel
theorem dX7_momentOf_3 : decode cX7_momentOf 3 = .ok (.istore_n 3, 1) := by decide +kernel
theorem dX7_momentOf_4 : decode cX7_momentOf 4 = .ok (.iconst 0, 1) := by decide +kernel
theorem dX7_momentOf_5 : decode cX7_momentOf 5 = .ok (.istore 4, 2) := by decide +kernel
theorem dX7_momentOf_7 : decode cX7_momentOf 7 = .ok (.iload 4, 2) := by decide +kernel
theorem dX7_momentOf_9 : decode cX7_momentOf 9 = .ok (.bipush 6, 2) := by decide +kernel
theorem dX7_momentOf_11 : decode cX7_momentOf 11 = .ok (.if_icmp .ge 118, 3) := by decide +kernel
theorem dX7_momentOf_14 : decode cX7_momentOf 14 = .ok (.aload_n 0, 1) := by decide +kernel
theorem dX7_momentOf_15 : decode cX7_momentOf 15 = .ok (.getfield 84, 3) := by decide +kernel
theorem dX7_momentOf_18 : decode cX7_momentOf 18 = .ok (.iload 4, 2) := by decide +kernel
theorem dX7_momentOf_20 : decode cX7_momentOf 20 = .ok (.aload_n 0, 1) := by decide +kernel
theorem dX7_momentOf_21 : decode cX7_momentOf 21 = .ok (.getfield 23, 3) := by decide +kernel
theorem dX7_momentOf_24 : decode cX7_momentOf 24 = .ok (.iload 4, 2) := by decide +kernel
theorem dX7_momentOf_26 : decode cX7_momentOf 26 = .ok (.iaload, 1) := by decide +kernel
theorem dX7_momentOf_27 : decode cX7_momentOf 27 = .ok (.iastore, 1) := by decide +kernel
theorem dX7_momentOf_28 : decode cX7_momentOf 28 = .ok (.iconst 0, 1) := by decide +kernel
theorem dX7_momentOf_29 : decode cX7_momentOf 29 = .ok (.istore 5, 2) := by decide +kernel
theorem dX7_momentOf_31 : decode cX7_momentOf 31 = .ok (.iload 5, 2) := by decide +kernel
theorem dX7_momentOf_33 : decode cX7_momentOf 33 = .ok (.bipush 12, 2) := by decide +kernel
theorem dX7_momentOf_35 : decode cX7_momentOf 35 = .ok (.if_icmp .ge 78, 3) := by decide +kernel
theorem dX7_momentOf_38 : decode cX7_momentOf 38 = .ok (.aload_n 0, 1) := by decide +kernel
theorem dX7_momentOf_39 : decode cX7_momentOf 39 = .ok (.getfield 7, 3) := by decide +kernel
theorem dX7_momentOf_42 : decode cX7_momentOf 42 = .ok (.bipush 12, 2) := by decide +kernel
theorem dX7_momentOf_44 : decode cX7_momentOf 44 = .ok (.iload 4, 2) := by decide +kernel
theorem dX7_momentOf_46 : decode cX7_momentOf 46 = .ok (.imul, 1) := by decide +kernel
theorem dX7_momentOf_47 : decode cX7_momentOf 47 = .ok (.iload 5, 2) := by decide +kernel
theorem dX7_momentOf_49 : decode cX7_momentOf 49 = .ok (.iadd, 1) := by decide +kernel
theorem dX7_momentOf_50 : decode cX7_momentOf 50 = .ok (.iaload, 1) := by decide +kernel
theorem dX7_momentOf_51 : decode cX7_momentOf 51 = .ok (.istore 6, 2) := by decide +kernel
theorem dX7_momentOf_53 : decode cX7_momentOf 53 = .ok (.aload_n 0, 1) := by decide +kernel
theorem dX7_momentOf_54 : decode cX7_momentOf 54 = .ok (.getfield 84, 3) := by decide +kernel
theorem dX7_momentOf_57 : decode cX7_momentOf 57 = .ok (.iload 4, 2) := by decide +kernel
theorem dX7_momentOf_59 : decode cX7_momentOf 59 = .ok (.dup2, 1) := by decide +kernel
theorem dX7_momentOf_60 : decode cX7_momentOf 60 = .ok (.iaload, 1) := by decide +kernel
theorem dX7_momentOf_61 : decode cX7_momentOf 61 = .ok (.iload 6, 2) := by decide +kernel
theorem dX7_momentOf_63 : decode cX7_momentOf 63 = .ok (.iconst (-1), 1) := by decide +kernel
theorem dX7_momentOf_64 : decode cX7_momentOf 64 = .ok (.if_icmp .ne 7, 3) := by decide +kernel
theorem dX7_momentOf_67 : decode cX7_momentOf 67 = .ok (.iconst 0, 1) := by decide +kernel
theorem dX7_momentOf_68 : decode cX7_momentOf 68 = .ok (.goto 10, 3) := by decide +kernel
theorem dX7_momentOf_71 : decode cX7_momentOf 71 = .ok (.aload_n 0, 1) := by decide +kernel
theorem dX7_momentOf_72 : decode cX7_momentOf 72 = .ok (.getfield 39, 3) := by decide +kernel
theorem dX7_momentOf_75 : decode cX7_momentOf 75 = .ok (.iload 6, 2) := by decide +kernel
theorem dX7_momentOf_77 : decode cX7_momentOf 77 = .ok (.iaload, 1) := by decide +kernel
theorem dX7_momentOf_78 : decode cX7_momentOf 78 = .ok (.iadd, 1) := by decide +kernel
theorem dX7_momentOf_79 : decode cX7_momentOf 79 = .ok (.iastore, 1) := by decide +kernel
theorem dX7_momentOf_80 : decode cX7_momentOf 80 = .ok (.iload_n 2, 1) := by decide +kernel
theorem dX7_momentOf_81 : decode cX7_momentOf 81 = .ok (.iload 6, 2) := by decide +kernel
theorem dX7_momentOf_83 : decode cX7_momentOf 83 = .ok (.iconst (-1), 1) := by decide +kernel
theorem dX7_momentOf_84 : decode cX7_momentOf 84 = .ok (.if_icmp .ne 7, 3) := by decide +kernel
theorem dX7_momentOf_87 : decode cX7_momentOf 87 = .ok (.iconst 0, 1) := by decide +kernel
theorem dX7_momentOf_88 : decode cX7_momentOf 88 = .ok (.goto 17, 3) := by decide +kernel
theorem dX7_momentOf_91 : decode cX7_momentOf 91 = .ok (.aload_n 0, 1) := by decide +kernel
theorem dX7_momentOf_92 : decode cX7_momentOf 92 = .ok (.getfield 39, 3) := by decide +kernel
theorem dX7_momentOf_95 : decode cX7_momentOf 95 = .ok (.iload 6, 2) := by decide +kernel
theorem dX7_momentOf_97 : decode cX7_momentOf 97 = .ok (.iaload, 1) := by decide +kernel
theorem dX7_momentOf_98 : decode cX7_momentOf 98 = .ok (.iload 5, 2) := by decide +kernel
theorem dX7_momentOf_100 : decode cX7_momentOf 100 = .ok (.iconst 4, 1) := by decide +kernel
theorem dX7_momentOf_101 : decode cX7_momentOf 101 = .ok (.idiv, 1) := by decide +kernel
theorem dX7_momentOf_102 : decode cX7_momentOf 102 = .ok (.iconst 1, 1) := by decide +kernel
theorem dX7_momentOf_103 : decode cX7_momentOf 103 = .ok (.isub, 1) := by decide +kernel
theorem dX7_momentOf_104 : decode cX7_momentOf 104 = .ok (.imul, 1) := by decide +kernel
theorem dX7_momentOf_105 : decode cX7_momentOf 105 = .ok (.iadd, 1) := by decide +kernel
theorem dX7_momentOf_106 : decode cX7_momentOf 106 = .ok (.istore_n 2, 1) := by decide +kernel
theorem dX7_momentOf_107 : decode cX7_momentOf 107 = .ok (.iinc 5 1, 3) := by decide +kernel
theorem dX7_momentOf_110 : decode cX7_momentOf 110 = .ok (.goto (-79), 3) := by decide +kernel
theorem dX7_momentOf_113 : decode cX7_momentOf 113 = .ok (.iload_n 3, 1) := by decide +kernel
theorem dX7_momentOf_114 : decode cX7_momentOf 114 = .ok (.aload_n 0, 1) := by decide +kernel
theorem dX7_momentOf_115 : decode cX7_momentOf 115 = .ok (.getfield 84, 3) := by decide +kernel
theorem dX7_momentOf_118 : decode cX7_momentOf 118 = .ok (.iload 4, 2) := by decide +kernel
theorem dX7_momentOf_120 : decode cX7_momentOf 120 = .ok (.iaload, 1) := by decide +kernel
theorem dX7_momentOf_121 : decode cX7_momentOf 121 = .ok (.iadd, 1) := by decide +kernel
theorem dX7_momentOf_122 : decode cX7_momentOf 122 = .ok (.istore_n 3, 1) := by decide +kernel
theorem dX7_momentOf_123 : decode cX7_momentOf 123 = .ok (.iinc 4 1, 3) := by decide +kernel
theorem dX7_momentOf_126 : decode cX7_momentOf 126 = .ok (.goto (-119), 3) := by decide +kernel
theorem dX7_momentOf_129 : decode cX7_momentOf 129 = .ok (.iload_n 1, 1) := by decide +kernel
theorem dX7_momentOf_130 : decode cX7_momentOf 130 = .ok (.bipush 6, 2) := by decide +kernel
theorem dX7_momentOf_132 : decode cX7_momentOf 132 = .ok (.if_icmp .ne 5, 3) := by decide +kernel
theorem dX7_momentOf_135 : decode cX7_momentOf 135 = .ok (.iload_n 2, 1) := by decide +kernel
theorem dX7_momentOf_136 : decode cX7_momentOf 136 = .ok (.ireturn, 1) := by decide +kernel
theorem dX7_momentOf_137 : decode cX7_momentOf 137 = .ok (.iconst 0, 1) := by decide +kernel
theorem dX7_momentOf_138 : decode cX7_momentOf 138 = .ok (.istore 4, 2) := by decide +kernel
theorem dX7_momentOf_140 : decode cX7_momentOf 140 = .ok (.iconst 0, 1) := by decide +kernel
theorem dX7_momentOf_141 : decode cX7_momentOf 141 = .ok (.istore 5, 2) := by decide +kernel
theorem dX7_momentOf_143 : decode cX7_momentOf 143 = .ok (.iload 5, 2) := by decide +kernel
theorem dX7_momentOf_145 : decode cX7_momentOf 145 = .ok (.bipush 6, 2) := by decide +kernel
theorem dX7_momentOf_147 : decode cX7_momentOf 147 = .ok (.if_icmp .ge 55, 3) := by decide +kernel
theorem dX7_momentOf_150 : decode cX7_momentOf 150 = .ok (.iload 4, 2) := by decide +kernel
theorem dX7_momentOf_152 : decode cX7_momentOf 152 = .ok (.iload_n 1, 1) := by decide +kernel
theorem dX7_momentOf_153 : decode cX7_momentOf 153 = .ok (.ifCond .ne 20, 3) := by decide +kernel
theorem dX7_momentOf_156 : decode cX7_momentOf 156 = .ok (.aload_n 0, 1) := by decide +kernel
theorem dX7_momentOf_157 : decode cX7_momentOf 157 = .ok (.getfield 84, 3) := by decide +kernel
theorem dX7_momentOf_160 : decode cX7_momentOf 160 = .ok (.iload 5, 2) := by decide +kernel
theorem dX7_momentOf_162 : decode cX7_momentOf 162 = .ok (.iaload, 1) := by decide +kernel
theorem dX7_momentOf_163 : decode cX7_momentOf 163 = .ok (.iconst 2, 1) := by decide +kernel
theorem dX7_momentOf_164 : decode cX7_momentOf 164 = .ok (.iload 5, 2) := by decide +kernel
theorem dX7_momentOf_166 : decode cX7_momentOf 166 = .ok (.imul, 1) := by decide +kernel
theorem dX7_momentOf_167 : decode cX7_momentOf 167 = .ok (.iconst 5, 1) := by decide +kernel
theorem dX7_momentOf_168 : decode cX7_momentOf 168 = .ok (.isub, 1) := by decide +kernel
theorem dX7_momentOf_169 : decode cX7_momentOf 169 = .ok (.imul, 1) := by decide +kernel
theorem dX7_momentOf_170 : decode cX7_momentOf 170 = .ok (.goto 23, 3) := by decide +kernel
theorem dX7_momentOf_173 : decode cX7_momentOf 173 = .ok (.iload 5, 2) := by decide +kernel
theorem dX7_momentOf_175 : decode cX7_momentOf 175 = .ok (.iload_n 1, 1) := by decide +kernel
theorem dX7_momentOf_176 : decode cX7_momentOf 176 = .ok (.if_icmp .ge 16, 3) := by decide +kernel
theorem dX7_momentOf_179 : decode cX7_momentOf 179 = .ok (.bipush 6, 2) := by decide +kernel
theorem dX7_momentOf_181 : decode cX7_momentOf 181 = .ok (.aload_n 0, 1) := by decide +kernel
theorem dX7_momentOf_182 : decode cX7_momentOf 182 = .ok (.getfield 84, 3) := by decide +kernel
theorem dX7_momentOf_185 : decode cX7_momentOf 185 = .ok (.iload 5, 2) := by decide +kernel
theorem dX7_momentOf_187 : decode cX7_momentOf 187 = .ok (.iaload, 1) := by decide +kernel
theorem dX7_momentOf_188 : decode cX7_momentOf 188 = .ok (.imul, 1) := by decide +kernel
theorem dX7_momentOf_189 : decode cX7_momentOf 189 = .ok (.goto 4, 3) := by decide +kernel
theorem dX7_momentOf_192 : decode cX7_momentOf 192 = .ok (.iconst 0, 1) := by decide +kernel
theorem dX7_momentOf_193 : decode cX7_momentOf 193 = .ok (.iadd, 1) := by decide +kernel
theorem dX7_momentOf_194 : decode cX7_momentOf 194 = .ok (.istore 4, 2) := by decide +kernel
theorem dX7_momentOf_196 : decode cX7_momentOf 196 = .ok (.iinc 5 1, 3) := by decide +kernel
theorem dX7_momentOf_199 : decode cX7_momentOf 199 = .ok (.goto (-56), 3) := by decide +kernel
theorem dX7_momentOf_202 : decode cX7_momentOf 202 = .ok (.iload_n 1, 1) := by decide +kernel
theorem dX7_momentOf_203 : decode cX7_momentOf 203 = .ok (.ifCond .ne 8, 3) := by decide +kernel
theorem dX7_momentOf_206 : decode cX7_momentOf 206 = .ok (.iload 4, 2) := by decide +kernel
theorem dX7_momentOf_208 : decode cX7_momentOf 208 = .ok (.goto 9, 3) := by decide +kernel
theorem dX7_momentOf_211 : decode cX7_momentOf 211 = .ok (.iload 4, 2) := by decide +kernel
theorem dX7_momentOf_213 : decode cX7_momentOf 213 = .ok (.iload_n 1, 1) := by decide +kernel
theorem dX7_momentOf_214 : decode cX7_momentOf 214 = .ok (.iload_n 3, 1) := by decide +kernel
theorem dX7_momentOf_215 : decode cX7_momentOf 215 = .ok (.imul, 1) := by decide +kernel
theorem dX7_momentOf_216 : decode cX7_momentOf 216 = .ok (.isub, 1) := by decide +kernel
theorem dX7_momentOf_217 : decode cX7_momentOf 217 = .ok (.ireturn, 1) := by decide +kernel
def pX7_momentOf_b193 (K143 : Int32 → Int32 → Int32 → Int32 → St → Option (Int32 × St)) (x1 : Int32) (x3 : Int32) (x5 : Int32) (y0 : Int32) (y1 : Int32) (v : St) : Option (Int32 × St) := K143 x1 x3 (y1 + y0) (x5 + 1) v
def pX7_momentOf_b143  (n : Nat) : Int32 → Int32 → Int32 → Int32 → St → Option (Int32 × St) := Nat.rec (fun _ _ _ _ _ => none) (fun _ K143 x1 x3 x4 x5 v => if 6 ≤ x5 then (if x1 = 0 then (some (x4, v)) else (some (x4 - (x1 * x3), v))) else (if x1 = 0 then (if (x5 < 0 ∨ 6 ≤ x5.toNatClampNeg) then none else (pX7_momentOf_b193 K143 x1 x3 x5 ((v.1 21 x5.toNatClampNeg) * ((2 * x5) - 5)) x4 v)) else (if x1 ≤ x5 then (pX7_momentOf_b193 K143 x1 x3 x5 0 x4 v) else (if (x5 < 0 ∨ 6 ≤ x5.toNatClampNeg) then none else (pX7_momentOf_b193 K143 x1 x3 x5 (6 * (v.1 21 x5.toNatClampNeg)) x4 v))))) n
def pX7_momentOf_b105 (K7 : Int32 → Int32 → Int32 → Int32 → St → Option (Int32 × St)) (K31 : Int32 → Int32 → Int32 → Int32 → Int32 → St → Option (Int32 × St)) (x1 : Int32) (x3 : Int32) (x4 : Int32) (x5 : Int32) (y0 : Int32) (y1 : Int32) (v : St) : Option (Int32 × St) := K31 x1 (y1 + y0) x3 x4 (x5 + 1) v
def pX7_momentOf_b78 (K7 : Int32 → Int32 → Int32 → Int32 → St → Option (Int32 × St)) (K31 : Int32 → Int32 → Int32 → Int32 → Int32 → St → Option (Int32 × St)) (x1 : Int32) (x2 : Int32) (x3 : Int32) (x4 : Int32) (x5 : Int32) (x6 : Int32) (y0 : Int32) (y1 : Int32) (y2 : Int32) (v : St) : Option (Int32 × St) := if (y2 < 0 ∨ 6 ≤ y2.toNatClampNeg) then none else (if x6 = ((-1)) then (pX7_momentOf_b105 K7 K31 x1 x3 x4 x5 0 x2 (sA v 21 (upd (v.1 21) y2.toNatClampNeg (y1 + y0)))) else (if (x6 < 0 ∨ 60 ≤ x6.toNatClampNeg) then none else (pX7_momentOf_b105 K7 K31 x1 x3 x4 x5 (((sA v 21 (upd (v.1 21) y2.toNatClampNeg (y1 + y0))).1 6 x6.toNatClampNeg) * ((x5 / 4) - 1)) x2 (sA v 21 (upd (v.1 21) y2.toNatClampNeg (y1 + y0))))))
def pX7_momentOf_b31 (K7 : Int32 → Int32 → Int32 → Int32 → St → Option (Int32 × St)) (n : Nat) : Int32 → Int32 → Int32 → Int32 → Int32 → St → Option (Int32 × St) := Nat.rec (fun _ _ _ _ _ _ => none) (fun _ K31 x1 x2 x3 x4 x5 v => if 12 ≤ x5 then (if (x4 < 0 ∨ 6 ≤ x4.toNatClampNeg) then none else (K7 x1 x2 (x3 + (v.1 21 x4.toNatClampNeg)) (x4 + 1) v)) else (if ((12 * x4) + x5 < 0 ∨ 72 ≤ ((12 * x4) + x5).toNatClampNeg) then none else (if (x4 < 0 ∨ 6 ≤ x4.toNatClampNeg) then none else (if (v.1 0 ((12 * x4) + x5).toNatClampNeg) = ((-1)) then (pX7_momentOf_b78 K7 K31 x1 x2 x3 x4 x5 (v.1 0 ((12 * x4) + x5).toNatClampNeg) 0 (v.1 21 x4.toNatClampNeg) x4 v) else (if (v.1 0 ((12 * x4) + x5).toNatClampNeg < 0 ∨ 60 ≤ (v.1 0 ((12 * x4) + x5).toNatClampNeg).toNatClampNeg) then none else (pX7_momentOf_b78 K7 K31 x1 x2 x3 x4 x5 (v.1 0 ((12 * x4) + x5).toNatClampNeg) (v.1 6 (v.1 0 ((12 * x4) + x5).toNatClampNeg).toNatClampNeg) (v.1 21 x4.toNatClampNeg) x4 v)))))) n
def pX7_momentOf_b7  (n : Nat) : Int32 → Int32 → Int32 → Int32 → St → Option (Int32 × St) := Nat.rec (fun _ _ _ _ _ => none) (fun _ K7 x1 x2 x3 x4 v => if 6 ≤ x4 then (if x1 = 6 then (some (x2, v)) else (pX7_momentOf_b143 100 x1 x3 0 0 v)) else (if (x4 < 0 ∨ 6 ≤ x4.toNatClampNeg) then none else (if (x4 < 0 ∨ 6 ≤ x4.toNatClampNeg) then none else (pX7_momentOf_b31 K7 100 x1 x2 x3 x4 0 (sA v 21 (upd (v.1 21) x4.toNatClampNeg (v.1 4 x4.toNatClampNeg))))))) n
def pX7_momentOf (a1 : Int32) (u : St) : Option (Int32 × St) := pX7_momentOf_b7 100 a1 0 0 0 u
set_option maxHeartbeats 4000000 in
set_option maxRecDepth 20000 in
theorem kX7_momentOf {l : Launch} {D : va_G} {Y : Nat → ClassId} {q : Nat → Nat} {a1 : Int32} {u u1 : St} {r : Int32} (hX : pX7_momentOf a1 u = some (r, u1)) : CMi l yX7_momentOf cX7_momentOf 7 (some .int) 0 0 D Y (wM Y q u) (wM Y q u1) [.ref (q 0), .int a1] r := by
  refine cm_ofi (by decide) (Nat.le_of_ble_eq_true rfl) rfl (fun p e s m args below meth c A F hr hlk => ?_)
  show GW p l e { frames := 0, cells := 0, slots := 0, locals := 0 } s m args below meth c D A 7 0 0 (MQ below (QI D (wM Y q u1) r A) args s 0 0 A) (wM Y q u) 0 [(0, .ref (q 0)), (1, .int a1)] []
  have b193 : ∀ (K143 : Int32 → Int32 → Int32 → Int32 → St → Option (Int32 × St)) (hK143 : ∀ (x1 : Int32) (x3 : Int32) (x4 : Int32) (x5 : Int32) (v : St), K143 x1 x3 x4 x5 v = some (r, u1) → GW p l e { frames := 0, cells := 0, slots := 0, locals := 0 } s m args below meth c D A 7 0 0 (MQ below (QI D (wM Y q u1) r A) args s 0 0 A) (wM Y q v) 143 [(0, .ref (q 0)), (1, .int x1), (3, .int x3), (4, .int x4), (5, .int x5)] []) (x1 : Int32) (x3 : Int32) (x5 : Int32) (y0 : Int32) (y1 : Int32) (v : St), pX7_momentOf_b193 K143 x1 x3 x5 y0 y1 v = some (r, u1) → GW p l e { frames := 0, cells := 0, slots := 0, locals := 0 } s m args below meth c D A 7 0 0 (MQ below (QI D (wM Y q u1) r A) args s 0 0 A) (wM Y q v) 193 [(0, .ref (q 0)), (1, .int x1), (3, .int x3), (5, .int x5)] [.int y0, .int y1] := by
    intro K143 hK143 x1 x3 x5 y0 y1 v hX
    have hX : (K143 x1 x3 (y1 + y0) (x5 + 1) v) = some (r, u1) := hX
    refine g_iadd F dX7_momentOf_193 ?_
    refine g_istore (lv' := [(4, .int (y1 + y0)), (0, .ref (q 0)), (1, .int x1), (3, .int x3), (5, .int x5)]) F dX7_momentOf_194 (by decide) rfl ?_
    refine g_iinc (v := x5 + 1) (lv' := [(5, .int (x5 + 1)), (4, .int (y1 + y0)), (0, .ref (q 0)), (1, .int x1), (3, .int x3)]) F dX7_momentOf_196 4 rfl rfl (by decide) rfl ?_
    refine g_goto (tgt := 143) F dX7_momentOf_199 (by decide) ?_
    refine g_sub [2, 3, 4, 1, 0] rfl ?_
    exact hK143 x1 x3 (y1 + y0) (x5 + 1) v hX
  have b143 : ∀  (n : Nat) (x1 : Int32) (x3 : Int32) (x4 : Int32) (x5 : Int32) (v : St), pX7_momentOf_b143  n x1 x3 x4 x5 v = some (r, u1) → GW p l e { frames := 0, cells := 0, slots := 0, locals := 0 } s m args below meth c D A 7 0 0 (MQ below (QI D (wM Y q u1) r A) args s 0 0 A) (wM Y q v) 143 [(0, .ref (q 0)), (1, .int x1), (3, .int x3), (4, .int x4), (5, .int x5)] [] := by
    intro  n
    induction n with
    | zero => intro x1 x3 x4 x5 v hX; cases hX
    | succ n ih =>
      intro x1 x3 x4 x5 v hX
      obtain ⟨K143, eK⟩ : ∃ K : Int32 → Int32 → Int32 → Int32 → St → Option (Int32 × St), K = pX7_momentOf_b143  n := ⟨_, rfl⟩
      have hK143 : ∀ (x1 : Int32) (x3 : Int32) (x4 : Int32) (x5 : Int32) (v : St), K143 x1 x3 x4 x5 v = some (r, u1) → GW p l e { frames := 0, cells := 0, slots := 0, locals := 0 } s m args below meth c D A 7 0 0 (MQ below (QI D (wM Y q u1) r A) args s 0 0 A) (wM Y q v) 143 [(0, .ref (q 0)), (1, .int x1), (3, .int x3), (4, .int x4), (5, .int x5)] [] := by rw [eK]; exact ih
      have hX : (if 6 ≤ x5 then (if x1 = 0 then (some (x4, v)) else (some (x4 - (x1 * x3), v))) else (if x1 = 0 then (if (x5 < 0 ∨ 6 ≤ x5.toNatClampNeg) then none else (pX7_momentOf_b193 K143 x1 x3 x5 ((v.1 21 x5.toNatClampNeg) * ((2 * x5) - 5)) x4 v)) else (if x1 ≤ x5 then (pX7_momentOf_b193 K143 x1 x3 x5 0 x4 v) else (if (x5 < 0 ∨ 6 ≤ x5.toNatClampNeg) then none else (pX7_momentOf_b193 K143 x1 x3 x5 (6 * (v.1 21 x5.toNatClampNeg)) x4 v))))) = some (r, u1) := by rw [eK]; exact hX
      refine g_iload F dX7_momentOf_143 4 rfl ?_
      refine g_bipush (v := 6) F dX7_momentOf_145 (by decide) ?_
      refine g_icmp_ge (tgt := 202) F dX7_momentOf_147 (by decide) (fun c3 => ?_) (fun c3 => ?_)
      · have hX := if_t hX c3
        refine g_iload_n F dX7_momentOf_202 1 rfl rfl ?_
        refine g_if_ne (tgt := 211) F dX7_momentOf_203 (by decide) (fun c4 => ?_) (fun c4 => ?_)
        · have hX := if_f hX c4
          refine g_iload F dX7_momentOf_211 3 rfl ?_
          refine g_iload_n F dX7_momentOf_213 1 rfl rfl ?_
          refine g_iload_n F dX7_momentOf_214 2 rfl rfl ?_
          refine g_imul F dX7_momentOf_215 ?_
          refine g_isub F dX7_momentOf_216 ?_
          exact g_retC (wf := wM Y q) F hr rfl hlk dX7_momentOf_217 hX
        · have hX := if_t hX c4
          refine g_iload F dX7_momentOf_206 3 rfl ?_
          refine g_goto (tgt := 217) F dX7_momentOf_208 (by decide) ?_
          exact g_retC (wf := wM Y q) F hr rfl hlk dX7_momentOf_217 hX
      · have hX := if_f hX c3
        refine g_iload F dX7_momentOf_150 3 rfl ?_
        refine g_iload_n F dX7_momentOf_152 1 rfl rfl ?_
        refine g_if_ne (tgt := 173) F dX7_momentOf_153 (by decide) (fun c5 => ?_) (fun c5 => ?_)
        · have hX := if_f hX c5
          refine g_iload F dX7_momentOf_173 4 rfl ?_
          refine g_iload_n F dX7_momentOf_175 1 rfl rfl ?_
          refine g_icmp_ge (tgt := 192) F dX7_momentOf_176 (by decide) (fun c6 => ?_) (fun c6 => ?_)
          · have hX := if_t hX c6
            refine g_iconst (v := 0) F dX7_momentOf_192 (by decide) ?_
            refine g_sub [0, 1, 2, 4] rfl ?_
            exact b193 K143 hK143 x1 x3 x5 0 x4 v hX
          · have hX := if_f hX c6
            refine g_bipush (v := 6) F dX7_momentOf_179 (by decide) ?_
            refine g_aload_n F dX7_momentOf_181 0 rfl rfl ?_
            refine G_X7_84 F dX7_momentOf_182 ?_
            refine g_iload F dX7_momentOf_185 4 rfl ?_
            obtain ⟨hI7, hX⟩ := inb hX
            refine AL_21 F hI7 dX7_momentOf_187 ?_
            refine g_imul F dX7_momentOf_188 ?_
            refine g_goto (tgt := 193) F dX7_momentOf_189 (by decide) ?_
            refine g_sub [0, 1, 2, 4] rfl ?_
            exact b193 K143 hK143 x1 x3 x5 (6 * (v.1 21 x5.toNatClampNeg)) x4 v hX
        · have hX := if_t hX c5
          refine g_aload_n F dX7_momentOf_156 0 rfl rfl ?_
          refine G_X7_84 F dX7_momentOf_157 ?_
          refine g_iload F dX7_momentOf_160 4 rfl ?_
          obtain ⟨hI8, hX⟩ := inb hX
          refine AL_21 F hI8 dX7_momentOf_162 ?_
          refine g_iconst (v := 2) F dX7_momentOf_163 (by decide) ?_
          refine g_iload F dX7_momentOf_164 4 rfl ?_
          refine g_imul F dX7_momentOf_166 ?_
          refine g_iconst (v := 5) F dX7_momentOf_167 (by decide) ?_
          refine g_isub F dX7_momentOf_168 ?_
          refine g_imul F dX7_momentOf_169 ?_
          refine g_goto (tgt := 193) F dX7_momentOf_170 (by decide) ?_
          refine g_sub [0, 1, 2, 4] rfl ?_
          exact b193 K143 hK143 x1 x3 x5 ((v.1 21 x5.toNatClampNeg) * ((2 * x5) - 5)) x4 v hX
  have b105 : ∀ (K7 : Int32 → Int32 → Int32 → Int32 → St → Option (Int32 × St)) (hK7 : ∀ (x1 : Int32) (x2 : Int32) (x3 : Int32) (x4 : Int32) (v : St), K7 x1 x2 x3 x4 v = some (r, u1) → GW p l e { frames := 0, cells := 0, slots := 0, locals := 0 } s m args below meth c D A 7 0 0 (MQ below (QI D (wM Y q u1) r A) args s 0 0 A) (wM Y q v) 7 [(0, .ref (q 0)), (1, .int x1), (2, .int x2), (3, .int x3), (4, .int x4)] []) (K31 : Int32 → Int32 → Int32 → Int32 → Int32 → St → Option (Int32 × St)) (hK31 : ∀ (x1 : Int32) (x2 : Int32) (x3 : Int32) (x4 : Int32) (x5 : Int32) (v : St), K31 x1 x2 x3 x4 x5 v = some (r, u1) → GW p l e { frames := 0, cells := 0, slots := 0, locals := 0 } s m args below meth c D A 7 0 0 (MQ below (QI D (wM Y q u1) r A) args s 0 0 A) (wM Y q v) 31 [(0, .ref (q 0)), (1, .int x1), (2, .int x2), (3, .int x3), (4, .int x4), (5, .int x5)] []) (x1 : Int32) (x3 : Int32) (x4 : Int32) (x5 : Int32) (y0 : Int32) (y1 : Int32) (v : St), pX7_momentOf_b105 K7 K31 x1 x3 x4 x5 y0 y1 v = some (r, u1) → GW p l e { frames := 0, cells := 0, slots := 0, locals := 0 } s m args below meth c D A 7 0 0 (MQ below (QI D (wM Y q u1) r A) args s 0 0 A) (wM Y q v) 105 [(0, .ref (q 0)), (1, .int x1), (3, .int x3), (4, .int x4), (5, .int x5)] [.int y0, .int y1] := by
    intro K7 hK7 K31 hK31 x1 x3 x4 x5 y0 y1 v hX
    have hX : (K31 x1 (y1 + y0) x3 x4 (x5 + 1) v) = some (r, u1) := hX
    refine g_iadd F dX7_momentOf_105 ?_
    refine g_istore_n (lv' := [(2, .int (y1 + y0)), (0, .ref (q 0)), (1, .int x1), (3, .int x3), (4, .int x4), (5, .int x5)]) F dX7_momentOf_106 rfl (by decide) rfl ?_
    refine g_iinc (v := x5 + 1) (lv' := [(5, .int (x5 + 1)), (2, .int (y1 + y0)), (0, .ref (q 0)), (1, .int x1), (3, .int x3), (4, .int x4)]) F dX7_momentOf_107 5 rfl rfl (by decide) rfl ?_
    refine g_goto (tgt := 31) F dX7_momentOf_110 (by decide) ?_
    refine g_sub [2, 3, 1, 4, 5, 0] rfl ?_
    exact hK31 x1 (y1 + y0) x3 x4 (x5 + 1) v hX
  have b78 : ∀ (K7 : Int32 → Int32 → Int32 → Int32 → St → Option (Int32 × St)) (hK7 : ∀ (x1 : Int32) (x2 : Int32) (x3 : Int32) (x4 : Int32) (v : St), K7 x1 x2 x3 x4 v = some (r, u1) → GW p l e { frames := 0, cells := 0, slots := 0, locals := 0 } s m args below meth c D A 7 0 0 (MQ below (QI D (wM Y q u1) r A) args s 0 0 A) (wM Y q v) 7 [(0, .ref (q 0)), (1, .int x1), (2, .int x2), (3, .int x3), (4, .int x4)] []) (K31 : Int32 → Int32 → Int32 → Int32 → Int32 → St → Option (Int32 × St)) (hK31 : ∀ (x1 : Int32) (x2 : Int32) (x3 : Int32) (x4 : Int32) (x5 : Int32) (v : St), K31 x1 x2 x3 x4 x5 v = some (r, u1) → GW p l e { frames := 0, cells := 0, slots := 0, locals := 0 } s m args below meth c D A 7 0 0 (MQ below (QI D (wM Y q u1) r A) args s 0 0 A) (wM Y q v) 31 [(0, .ref (q 0)), (1, .int x1), (2, .int x2), (3, .int x3), (4, .int x4), (5, .int x5)] []) (x1 : Int32) (x2 : Int32) (x3 : Int32) (x4 : Int32) (x5 : Int32) (x6 : Int32) (y0 : Int32) (y1 : Int32) (y2 : Int32) (v : St), pX7_momentOf_b78 K7 K31 x1 x2 x3 x4 x5 x6 y0 y1 y2 v = some (r, u1) → GW p l e { frames := 0, cells := 0, slots := 0, locals := 0 } s m args below meth c D A 7 0 0 (MQ below (QI D (wM Y q u1) r A) args s 0 0 A) (wM Y q v) 78 [(0, .ref (q 0)), (1, .int x1), (2, .int x2), (3, .int x3), (4, .int x4), (5, .int x5), (6, .int x6)] [.int y0, .int y1, .int y2, .ref (q 22)] := by
    intro K7 hK7 K31 hK31 x1 x2 x3 x4 x5 x6 y0 y1 y2 v hX
    have hX : (if (y2 < 0 ∨ 6 ≤ y2.toNatClampNeg) then none else (if x6 = ((-1)) then (pX7_momentOf_b105 K7 K31 x1 x3 x4 x5 0 x2 (sA v 21 (upd (v.1 21) y2.toNatClampNeg (y1 + y0)))) else (if (x6 < 0 ∨ 60 ≤ x6.toNatClampNeg) then none else (pX7_momentOf_b105 K7 K31 x1 x3 x4 x5 (((sA v 21 (upd (v.1 21) y2.toNatClampNeg (y1 + y0))).1 6 x6.toNatClampNeg) * ((x5 / 4) - 1)) x2 (sA v 21 (upd (v.1 21) y2.toNatClampNeg (y1 + y0))))))) = some (r, u1) := hX
    refine g_iadd F dX7_momentOf_78 ?_
    obtain ⟨hI17, hX⟩ := inb hX
    refine AS_21 F hI17 dX7_momentOf_79 ?_
    refine g_iload_n F dX7_momentOf_80 2 rfl rfl ?_
    refine g_iload F dX7_momentOf_81 6 rfl ?_
    refine g_iconst (v := (-1)) F dX7_momentOf_83 (by decide) ?_
    refine g_icmp_ne (tgt := 91) F dX7_momentOf_84 (by decide) (fun c18 => ?_) (fun c18 => ?_)
    · have hX := if_f hX c18
      refine g_aload_n F dX7_momentOf_91 0 rfl rfl ?_
      refine G_X7_39 F dX7_momentOf_92 ?_
      refine g_iload F dX7_momentOf_95 6 rfl ?_
      obtain ⟨hI19, hX⟩ := inb hX
      refine AL_6 F hI19 dX7_momentOf_97 ?_
      refine g_iload F dX7_momentOf_98 5 rfl ?_
      refine g_iconst (v := 4) F dX7_momentOf_100 (by decide) ?_
      refine g_idiv F dX7_momentOf_101 (by decide) ?_
      refine g_iconst (v := 1) F dX7_momentOf_102 (by decide) ?_
      refine g_isub F dX7_momentOf_103 ?_
      refine g_imul F dX7_momentOf_104 ?_
      refine g_sub [0, 1, 3, 4, 5] rfl ?_
      exact b105 K7 hK7 K31 hK31 x1 x3 x4 x5 (((sA v 21 (upd (v.1 21) y2.toNatClampNeg (y1 + y0))).1 6 x6.toNatClampNeg) * ((x5 / 4) - 1)) x2 (sA v 21 (upd (v.1 21) y2.toNatClampNeg (y1 + y0))) hX
    · have hX := if_t hX c18
      refine g_iconst (v := 0) F dX7_momentOf_87 (by decide) ?_
      refine g_goto (tgt := 105) F dX7_momentOf_88 (by decide) ?_
      refine g_sub [0, 1, 3, 4, 5] rfl ?_
      exact b105 K7 hK7 K31 hK31 x1 x3 x4 x5 0 x2 (sA v 21 (upd (v.1 21) y2.toNatClampNeg (y1 + y0))) hX
  have b31 : ∀ (K7 : Int32 → Int32 → Int32 → Int32 → St → Option (Int32 × St)) (hK7 : ∀ (x1 : Int32) (x2 : Int32) (x3 : Int32) (x4 : Int32) (v : St), K7 x1 x2 x3 x4 v = some (r, u1) → GW p l e { frames := 0, cells := 0, slots := 0, locals := 0 } s m args below meth c D A 7 0 0 (MQ below (QI D (wM Y q u1) r A) args s 0 0 A) (wM Y q v) 7 [(0, .ref (q 0)), (1, .int x1), (2, .int x2), (3, .int x3), (4, .int x4)] []) (n : Nat) (x1 : Int32) (x2 : Int32) (x3 : Int32) (x4 : Int32) (x5 : Int32) (v : St), pX7_momentOf_b31 K7 n x1 x2 x3 x4 x5 v = some (r, u1) → GW p l e { frames := 0, cells := 0, slots := 0, locals := 0 } s m args below meth c D A 7 0 0 (MQ below (QI D (wM Y q u1) r A) args s 0 0 A) (wM Y q v) 31 [(0, .ref (q 0)), (1, .int x1), (2, .int x2), (3, .int x3), (4, .int x4), (5, .int x5)] [] := by
    intro K7 hK7 n
    induction n with
    | zero => intro x1 x2 x3 x4 x5 v hX; cases hX
    | succ n ih =>
      intro x1 x2 x3 x4 x5 v hX
      obtain ⟨K31, eK⟩ : ∃ K : Int32 → Int32 → Int32 → Int32 → Int32 → St → Option (Int32 × St), K = pX7_momentOf_b31 K7 n := ⟨_, rfl⟩
      have hK31 : ∀ (x1 : Int32) (x2 : Int32) (x3 : Int32) (x4 : Int32) (x5 : Int32) (v : St), K31 x1 x2 x3 x4 x5 v = some (r, u1) → GW p l e { frames := 0, cells := 0, slots := 0, locals := 0 } s m args below meth c D A 7 0 0 (MQ below (QI D (wM Y q u1) r A) args s 0 0 A) (wM Y q v) 31 [(0, .ref (q 0)), (1, .int x1), (2, .int x2), (3, .int x3), (4, .int x4), (5, .int x5)] [] := by rw [eK]; exact ih
      have hX : (if 12 ≤ x5 then (if (x4 < 0 ∨ 6 ≤ x4.toNatClampNeg) then none else (K7 x1 x2 (x3 + (v.1 21 x4.toNatClampNeg)) (x4 + 1) v)) else (if ((12 * x4) + x5 < 0 ∨ 72 ≤ ((12 * x4) + x5).toNatClampNeg) then none else (if (x4 < 0 ∨ 6 ≤ x4.toNatClampNeg) then none else (if (v.1 0 ((12 * x4) + x5).toNatClampNeg) = ((-1)) then (pX7_momentOf_b78 K7 K31 x1 x2 x3 x4 x5 (v.1 0 ((12 * x4) + x5).toNatClampNeg) 0 (v.1 21 x4.toNatClampNeg) x4 v) else (if (v.1 0 ((12 * x4) + x5).toNatClampNeg < 0 ∨ 60 ≤ (v.1 0 ((12 * x4) + x5).toNatClampNeg).toNatClampNeg) then none else (pX7_momentOf_b78 K7 K31 x1 x2 x3 x4 x5 (v.1 0 ((12 * x4) + x5).toNatClampNeg) (v.1 6 (v.1 0 ((12 * x4) + x5).toNatClampNeg).toNatClampNeg) (v.1 21 x4.toNatClampNeg) x4 v)))))) = some (r, u1) := by rw [eK]; exact hX
      refine g_iload F dX7_momentOf_31 5 rfl ?_
      refine g_bipush (v := 12) F dX7_momentOf_33 (by decide) ?_
      refine g_icmp_ge (tgt := 113) F dX7_momentOf_35 (by decide) (fun c11 => ?_) (fun c11 => ?_)
      · have hX := if_t hX c11
        refine g_iload_n F dX7_momentOf_113 3 rfl rfl ?_
        refine g_aload_n F dX7_momentOf_114 0 rfl rfl ?_
        refine G_X7_84 F dX7_momentOf_115 ?_
        refine g_iload F dX7_momentOf_118 4 rfl ?_
        obtain ⟨hI12, hX⟩ := inb hX
        refine AL_21 F hI12 dX7_momentOf_120 ?_
        refine g_iadd F dX7_momentOf_121 ?_
        refine g_istore_n (lv' := [(3, .int (x3 + (v.1 21 x4.toNatClampNeg))), (0, .ref (q 0)), (1, .int x1), (2, .int x2), (4, .int x4), (5, .int x5)]) F dX7_momentOf_122 rfl (by decide) rfl ?_
        refine g_iinc (v := x4 + 1) (lv' := [(4, .int (x4 + 1)), (3, .int (x3 + (v.1 21 x4.toNatClampNeg))), (0, .ref (q 0)), (1, .int x1), (2, .int x2), (5, .int x5)]) F dX7_momentOf_123 4 rfl rfl (by decide) rfl ?_
        refine g_goto (tgt := 7) F dX7_momentOf_126 (by decide) ?_
        refine g_sub [2, 3, 4, 1, 0] rfl ?_
        exact hK7 x1 x2 (x3 + (v.1 21 x4.toNatClampNeg)) (x4 + 1) v hX
      · have hX := if_f hX c11
        refine g_aload_n F dX7_momentOf_38 0 rfl rfl ?_
        refine G_X7_7 F dX7_momentOf_39 ?_
        refine g_bipush (v := 12) F dX7_momentOf_42 (by decide) ?_
        refine g_iload F dX7_momentOf_44 4 rfl ?_
        refine g_imul F dX7_momentOf_46 ?_
        refine g_iload F dX7_momentOf_47 5 rfl ?_
        refine g_iadd F dX7_momentOf_49 ?_
        obtain ⟨hI13, hX⟩ := inb hX
        refine AL_0 F hI13 dX7_momentOf_50 ?_
        refine g_istore (lv' := [(6, .int (v.1 0 ((12 * x4) + x5).toNatClampNeg)), (0, .ref (q 0)), (1, .int x1), (2, .int x2), (3, .int x3), (4, .int x4), (5, .int x5)]) F dX7_momentOf_51 (by decide) rfl ?_
        refine g_aload_n F dX7_momentOf_53 1 rfl rfl ?_
        refine G_X7_84 F dX7_momentOf_54 ?_
        refine g_iload F dX7_momentOf_57 5 rfl ?_
        refine g_dup2 F dX7_momentOf_59 rfl rfl ?_
        obtain ⟨hI14, hX⟩ := inb hX
        refine AL_21 F hI14 dX7_momentOf_60 ?_
        refine g_iload F dX7_momentOf_61 0 rfl ?_
        refine g_iconst (v := (-1)) F dX7_momentOf_63 (by decide) ?_
        refine g_icmp_ne (tgt := 71) F dX7_momentOf_64 (by decide) (fun c15 => ?_) (fun c15 => ?_)
        · have hX := if_f hX c15
          refine g_aload_n F dX7_momentOf_71 1 rfl rfl ?_
          refine G_X7_39 F dX7_momentOf_72 ?_
          refine g_iload F dX7_momentOf_75 0 rfl ?_
          obtain ⟨hI16, hX⟩ := inb hX
          refine AL_6 F hI16 dX7_momentOf_77 ?_
          refine g_sub [1, 2, 3, 4, 5, 6, 0] rfl ?_
          exact b78 K7 hK7 K31 hK31 x1 x2 x3 x4 x5 (v.1 0 ((12 * x4) + x5).toNatClampNeg) (v.1 6 (v.1 0 ((12 * x4) + x5).toNatClampNeg).toNatClampNeg) (v.1 21 x4.toNatClampNeg) x4 v hX
        · have hX := if_t hX c15
          refine g_iconst (v := 0) F dX7_momentOf_67 (by decide) ?_
          refine g_goto (tgt := 78) F dX7_momentOf_68 (by decide) ?_
          refine g_sub [1, 2, 3, 4, 5, 6, 0] rfl ?_
          exact b78 K7 hK7 K31 hK31 x1 x2 x3 x4 x5 (v.1 0 ((12 * x4) + x5).toNatClampNeg) 0 (v.1 21 x4.toNatClampNeg) x4 v hX
  have b7 : ∀  (n : Nat) (x1 : Int32) (x2 : Int32) (x3 : Int32) (x4 : Int32) (v : St), pX7_momentOf_b7  n x1 x2 x3 x4 v = some (r, u1) → GW p l e { frames := 0, cells := 0, slots := 0, locals := 0 } s m args below meth c D A 7 0 0 (MQ below (QI D (wM Y q u1) r A) args s 0 0 A) (wM Y q v) 7 [(0, .ref (q 0)), (1, .int x1), (2, .int x2), (3, .int x3), (4, .int x4)] [] := by
    intro  n
    induction n with
    | zero => intro x1 x2 x3 x4 v hX; cases hX
    | succ n ih =>
      intro x1 x2 x3 x4 v hX
      obtain ⟨K7, eK⟩ : ∃ K : Int32 → Int32 → Int32 → Int32 → St → Option (Int32 × St), K = pX7_momentOf_b7  n := ⟨_, rfl⟩
      have hK7 : ∀ (x1 : Int32) (x2 : Int32) (x3 : Int32) (x4 : Int32) (v : St), K7 x1 x2 x3 x4 v = some (r, u1) → GW p l e { frames := 0, cells := 0, slots := 0, locals := 0 } s m args below meth c D A 7 0 0 (MQ below (QI D (wM Y q u1) r A) args s 0 0 A) (wM Y q v) 7 [(0, .ref (q 0)), (1, .int x1), (2, .int x2), (3, .int x3), (4, .int x4)] [] := by rw [eK]; exact ih
      have hX : (if 6 ≤ x4 then (if x1 = 6 then (some (x2, v)) else (pX7_momentOf_b143 100 x1 x3 0 0 v)) else (if (x4 < 0 ∨ 6 ≤ x4.toNatClampNeg) then none else (if (x4 < 0 ∨ 6 ≤ x4.toNatClampNeg) then none else (pX7_momentOf_b31 K7 100 x1 x2 x3 x4 0 (sA v 21 (upd (v.1 21) x4.toNatClampNeg (v.1 4 x4.toNatClampNeg))))))) = some (r, u1) := by rw [eK]; exact hX
      refine g_iload F dX7_momentOf_7 4 rfl ?_
      refine g_bipush (v := 6) F dX7_momentOf_9 (by decide) ?_
      refine g_icmp_ge (tgt := 129) F dX7_momentOf_11 (by decide) (fun c1 => ?_) (fun c1 => ?_)
      · have hX := if_t hX c1
        refine g_iload_n F dX7_momentOf_129 1 rfl rfl ?_
        refine g_bipush (v := 6) F dX7_momentOf_130 (by decide) ?_
        refine g_icmp_ne (tgt := 137) F dX7_momentOf_132 (by decide) (fun c2 => ?_) (fun c2 => ?_)
        · have hX := if_f hX c2
          refine g_iconst (v := 0) F dX7_momentOf_137 (by decide) ?_
          refine g_istore (lv' := [(4, .int 0), (0, .ref (q 0)), (1, .int x1), (2, .int x2), (3, .int x3)]) F dX7_momentOf_138 (by decide) rfl ?_
          refine g_iconst (v := 0) F dX7_momentOf_140 (by decide) ?_
          refine g_istore (lv' := [(5, .int 0), (4, .int 0), (0, .ref (q 0)), (1, .int x1), (2, .int x2), (3, .int x3)]) F dX7_momentOf_141 (by decide) rfl ?_
          refine g_sub [2, 3, 5, 1, 0] rfl ?_
          exact b143 100 x1 x3 0 0 v hX
        · have hX := if_t hX c2
          refine g_iload_n F dX7_momentOf_135 2 rfl rfl ?_
          exact g_retC (wf := wM Y q) F hr rfl hlk dX7_momentOf_136 hX
      · have hX := if_f hX c1
        refine g_aload_n F dX7_momentOf_14 0 rfl rfl ?_
        refine G_X7_84 F dX7_momentOf_15 ?_
        refine g_iload F dX7_momentOf_18 4 rfl ?_
        refine g_aload_n F dX7_momentOf_20 0 rfl rfl ?_
        refine G_X7_23 F dX7_momentOf_21 ?_
        refine g_iload F dX7_momentOf_24 4 rfl ?_
        obtain ⟨hI9, hX⟩ := inb hX
        refine AL_4 F hI9 dX7_momentOf_26 ?_
        obtain ⟨hI10, hX⟩ := inb hX
        refine AS_21 F hI10 dX7_momentOf_27 ?_
        refine g_iconst (v := 0) F dX7_momentOf_28 (by decide) ?_
        refine g_istore (lv' := [(5, .int 0), (0, .ref (q 0)), (1, .int x1), (2, .int x2), (3, .int x3), (4, .int x4)]) F dX7_momentOf_29 (by decide) rfl ?_
        refine g_sub [1, 2, 3, 4, 5, 0] rfl ?_
        exact b31 K7 hK7 100 x1 x2 x3 x4 0 (sA v 21 (upd (v.1 21) x4.toNatClampNeg (v.1 4 x4.toNatClampNeg))) hX
  have hX : (pX7_momentOf_b7 100 a1 0 0 0 u) = some (r, u1) := hX
  refine g_iconst (v := 0) F dX7_momentOf_0 (by decide) ?_
  refine g_istore_n (lv' := [(2, .int 0), (0, .ref (q 0)), (1, .int a1)]) F dX7_momentOf_1 rfl (by decide) rfl ?_
  refine g_iconst (v := 0) F dX7_momentOf_2 (by decide) ?_
  refine g_istore_n (lv' := [(3, .int 0), (2, .int 0), (0, .ref (q 0)), (1, .int a1)]) F dX7_momentOf_3 rfl (by decide) rfl ?_
  refine g_iconst (v := 0) F dX7_momentOf_4 (by decide) ?_
  refine g_istore (lv' := [(4, .int 0), (3, .int 0), (2, .int 0), (0, .ref (q 0)), (1, .int a1)]) F dX7_momentOf_5 (by decide) rfl ?_
  refine g_sub [3, 4, 2, 1, 0] rfl ?_
  exact b7 100 a1 0 0 0 u hX
theorem callX7_momentOf {p : Program} {l : Launch} {e : Env} {R : Room} {s : State} {m : MethodId} {args : Array Value} {below : List Frame} {meth : Method} {c : Code} {D : va_G} {Y : Nat → ClassId} {A : Nat → Prop} {cc : ByteArray} {nL : Nat} {own : String} {Q : State → Prop} {pc : Nat} {lv : List (Nat × Value)} {rest : List Value} {q : Nat → Nat} {a1 : Int32} {u u1 : St} {r : Int32} (F : Fx p s m args c D Y A cc nL own) (hX : pX7_momentOf a1 u = some (r, u1)) {index : Nat} (hml : Cond.methodLink own index yX7_momentOf ∈ TBL) (hR : 0 + 1 ≤ R.frames ∧ 8 + (7 + 11) + 0 ≤ R.locals) (hcat : (rest.map fun v => v.category).sum ≤ 8) (hd : decode cc pc = .ok (.invokevirtual index, 3)) (kk : GW p l e R s m args below meth c D A nL 0 0 Q (wM Y q u1) (pc + 3) lv (.int r :: rest)) : GW p l e R s m args below meth c D A nL 0 0 Q (wM Y q u) pc lv (.int a1 :: .ref (q 0) :: rest) := g_callVi (ws := wM Y q u) (n := 1) (q0 := 0) (As := [.int a1]) F [] [] (kX7_momentOf hX) (List.append_nil _).symm (List.append_nil _) (by unfold mOK; decide +kernel) rfl rfl cd_yX7_momentOf hml im_yX7_momentOf se_yX7_momentOf in_X7 rfl rfl hR ⟨Nat.zero_le _, Nat.zero_le _⟩ rfl hcat hd kk
theorem dX7_barsNow_0 : decode cX7_barsNow 0 = .ok (.iconst 0, 1) := by decide +kernel
theorem dX7_barsNow_1 : decode cX7_barsNow 1 = .ok (.istore_n 1, 1) := by decide +kernel
theorem dX7_barsNow_2 : decode cX7_barsNow 2 = .ok (.iconst 0, 1) := by decide +kernel
theorem dX7_barsNow_3 : decode cX7_barsNow 3 = .ok (.istore_n 2, 1) := by decide +kernel
theorem dX7_barsNow_4 : decode cX7_barsNow 4 = .ok (.iload_n 2, 1) := by decide +kernel
theorem dX7_barsNow_5 : decode cX7_barsNow 5 = .ok (.bipush 6, 2) := by decide +kernel
theorem dX7_barsNow_7 : decode cX7_barsNow 7 = .ok (.if_icmp .ge 28, 3) := by decide +kernel
theorem dX7_barsNow_10 : decode cX7_barsNow 10 = .ok (.iload_n 1, 1) := by decide +kernel
theorem dX7_barsNow_11 : decode cX7_barsNow 11 = .ok (.ifCond .ne 12, 3) := by decide +kernel
theorem dX7_barsNow_14 : decode cX7_barsNow 14 = .ok (.aload_n 0, 1) := by decide +kernel
theorem dX7_barsNow_15 : decode cX7_barsNow 15 = .ok (.getfield 17, 3) := by decide +kernel
theorem dX7_barsNow_18 : decode cX7_barsNow 18 = .ok (.iload_n 2, 1) := by decide +kernel
theorem dX7_barsNow_19 : decode cX7_barsNow 19 = .ok (.baload, 1) := by decide +kernel
theorem dX7_barsNow_20 : decode cX7_barsNow 20 = .ok (.ifCond .eq 7, 3) := by decide +kernel
theorem dX7_barsNow_23 : decode cX7_barsNow 23 = .ok (.iconst 1, 1) := by decide +kernel
theorem dX7_barsNow_24 : decode cX7_barsNow 24 = .ok (.goto 4, 3) := by decide +kernel
theorem dX7_barsNow_27 : decode cX7_barsNow 27 = .ok (.iconst 0, 1) := by decide +kernel
theorem dX7_barsNow_28 : decode cX7_barsNow 28 = .ok (.istore_n 1, 1) := by decide +kernel
theorem dX7_barsNow_29 : decode cX7_barsNow 29 = .ok (.iinc 2 1, 3) := by decide +kernel
theorem dX7_barsNow_32 : decode cX7_barsNow 32 = .ok (.goto (-28), 3) := by decide +kernel
theorem dX7_barsNow_35 : decode cX7_barsNow 35 = .ok (.iconst 0, 1) := by decide +kernel
theorem dX7_barsNow_36 : decode cX7_barsNow 36 = .ok (.istore_n 2, 1) := by decide +kernel
theorem dX7_barsNow_37 : decode cX7_barsNow 37 = .ok (.iconst 1, 1) := by decide +kernel
theorem dX7_barsNow_38 : decode cX7_barsNow 38 = .ok (.istore_n 3, 1) := by decide +kernel
theorem dX7_barsNow_39 : decode cX7_barsNow 39 = .ok (.iload_n 3, 1) := by decide +kernel
theorem dX7_barsNow_40 : decode cX7_barsNow 40 = .ok (.bipush 6, 2) := by decide +kernel
theorem dX7_barsNow_42 : decode cX7_barsNow 42 = .ok (.if_icmp .ge 34, 3) := by decide +kernel
theorem dX7_barsNow_45 : decode cX7_barsNow 45 = .ok (.iload_n 2, 1) := by decide +kernel
theorem dX7_barsNow_46 : decode cX7_barsNow 46 = .ok (.ifCond .ne 18, 3) := by decide +kernel
theorem dX7_barsNow_49 : decode cX7_barsNow 49 = .ok (.aload_n 0, 1) := by decide +kernel
theorem dX7_barsNow_50 : decode cX7_barsNow 50 = .ok (.iload_n 3, 1) := by decide +kernel
theorem dX7_barsNow_51 : decode cX7_barsNow 51 = .ok (.invokevirtual 208, 3) := by decide +kernel
theorem dX7_barsNow_54 : decode cX7_barsNow 54 = .ok (.aload_n 0, 1) := by decide +kernel
theorem dX7_barsNow_55 : decode cX7_barsNow 55 = .ok (.getfield 33, 3) := by decide +kernel
theorem dX7_barsNow_58 : decode cX7_barsNow 58 = .ok (.invokestatic 214, 3) := by decide +kernel
theorem dX7_barsNow_61 : decode cX7_barsNow 61 = .ok (.ifCond .eq 7, 3) := by decide +kernel
theorem dX7_barsNow_64 : decode cX7_barsNow 64 = .ok (.iconst 1, 1) := by decide +kernel
theorem dX7_barsNow_65 : decode cX7_barsNow 65 = .ok (.goto 4, 3) := by decide +kernel
theorem dX7_barsNow_68 : decode cX7_barsNow 68 = .ok (.iconst 0, 1) := by decide +kernel
theorem dX7_barsNow_69 : decode cX7_barsNow 69 = .ok (.istore_n 2, 1) := by decide +kernel
theorem dX7_barsNow_70 : decode cX7_barsNow 70 = .ok (.iinc 3 1, 3) := by decide +kernel
theorem dX7_barsNow_73 : decode cX7_barsNow 73 = .ok (.goto (-34), 3) := by decide +kernel
theorem dX7_barsNow_76 : decode cX7_barsNow 76 = .ok (.iconst 0, 1) := by decide +kernel
theorem dX7_barsNow_77 : decode cX7_barsNow 77 = .ok (.istore_n 3, 1) := by decide +kernel
theorem dX7_barsNow_78 : decode cX7_barsNow 78 = .ok (.iconst 0, 1) := by decide +kernel
theorem dX7_barsNow_79 : decode cX7_barsNow 79 = .ok (.istore 4, 2) := by decide +kernel
theorem dX7_barsNow_81 : decode cX7_barsNow 81 = .ok (.iload 4, 2) := by decide +kernel
theorem dX7_barsNow_83 : decode cX7_barsNow 83 = .ok (.aload_n 0, 1) := by decide +kernel
theorem dX7_barsNow_84 : decode cX7_barsNow 84 = .ok (.getfield 94, 3) := by decide +kernel
theorem dX7_barsNow_87 : decode cX7_barsNow 87 = .ok (.if_icmp .ge 44, 3) := by decide +kernel
theorem dX7_barsNow_90 : decode cX7_barsNow 90 = .ok (.iload_n 3, 1) := by decide +kernel
theorem dX7_barsNow_91 : decode cX7_barsNow 91 = .ok (.ifCond .ne 28, 3) := by decide +kernel
theorem dX7_barsNow_94 : decode cX7_barsNow 94 = .ok (.aload_n 0, 1) := by decide +kernel
theorem dX7_barsNow_95 : decode cX7_barsNow 95 = .ok (.getfield 51, 3) := by decide +kernel
theorem dX7_barsNow_98 : decode cX7_barsNow 98 = .ok (.iload 4, 2) := by decide +kernel
theorem dX7_barsNow_100 : decode cX7_barsNow 100 = .ok (.iaload, 1) := by decide +kernel
theorem dX7_barsNow_101 : decode cX7_barsNow 101 = .ok (.iconst 1, 1) := by decide +kernel
theorem dX7_barsNow_102 : decode cX7_barsNow 102 = .ok (.if_icmp .ne 21, 3) := by decide +kernel
theorem dX7_barsNow_105 : decode cX7_barsNow 105 = .ok (.aload_n 0, 1) := by decide +kernel
theorem dX7_barsNow_106 : decode cX7_barsNow 106 = .ok (.getfield 42, 3) := by decide +kernel
theorem dX7_barsNow_109 : decode cX7_barsNow 109 = .ok (.iload 4, 2) := by decide +kernel
theorem dX7_barsNow_111 : decode cX7_barsNow 111 = .ok (.iaload, 1) := by decide +kernel
theorem dX7_barsNow_112 : decode cX7_barsNow 112 = .ok (.aload_n 0, 1) := by decide +kernel
theorem dX7_barsNow_113 : decode cX7_barsNow 113 = .ok (.getfield 100, 3) := by decide +kernel
theorem dX7_barsNow_116 : decode cX7_barsNow 116 = .ok (.if_icmp .ne 7, 3) := by decide +kernel
theorem dX7_barsNow_119 : decode cX7_barsNow 119 = .ok (.iconst 1, 1) := by decide +kernel
theorem dX7_barsNow_120 : decode cX7_barsNow 120 = .ok (.goto 4, 3) := by decide +kernel
theorem dX7_barsNow_123 : decode cX7_barsNow 123 = .ok (.iconst 0, 1) := by decide +kernel
theorem dX7_barsNow_124 : decode cX7_barsNow 124 = .ok (.istore_n 3, 1) := by decide +kernel
theorem dX7_barsNow_125 : decode cX7_barsNow 125 = .ok (.iinc 4 1, 3) := by decide +kernel
theorem dX7_barsNow_128 : decode cX7_barsNow 128 = .ok (.goto (-47), 3) := by decide +kernel
theorem dX7_barsNow_131 : decode cX7_barsNow 131 = .ok (.iload_n 1, 1) := by decide +kernel
theorem dX7_barsNow_132 : decode cX7_barsNow 132 = .ok (.ifCond .eq 7, 3) := by decide +kernel
theorem dX7_barsNow_135 : decode cX7_barsNow 135 = .ok (.iconst 1, 1) := by decide +kernel
theorem dX7_barsNow_136 : decode cX7_barsNow 136 = .ok (.goto 4, 3) := by decide +kernel
theorem dX7_barsNow_139 : decode cX7_barsNow 139 = .ok (.iconst 0, 1) := by decide +kernel
theorem dX7_barsNow_140 : decode cX7_barsNow 140 = .ok (.aload_n 0, 1) := by decide +kernel
theorem dX7_barsNow_141 : decode cX7_barsNow 141 = .ok (.iconst 0, 1) := by decide +kernel
theorem dX7_barsNow_142 : decode cX7_barsNow 142 = .ok (.invokevirtual 208, 3) := by decide +kernel
theorem dX7_barsNow_145 : decode cX7_barsNow 145 = .ok (.aload_n 0, 1) := by decide +kernel
theorem dX7_barsNow_146 : decode cX7_barsNow 146 = .ok (.getfield 26, 3) := by decide +kernel
theorem dX7_barsNow_149 : decode cX7_barsNow 149 = .ok (.invokestatic 214, 3) := by decide +kernel
theorem dX7_barsNow_152 : decode cX7_barsNow 152 = .ok (.ifCond .eq 7, 3) := by decide +kernel
theorem dX7_barsNow_155 : decode cX7_barsNow 155 = .ok (.iconst 2, 1) := by decide +kernel
theorem dX7_barsNow_156 : decode cX7_barsNow 156 = .ok (.goto 4, 3) := by decide +kernel
theorem dX7_barsNow_159 : decode cX7_barsNow 159 = .ok (.iconst 0, 1) := by decide +kernel
theorem dX7_barsNow_160 : decode cX7_barsNow 160 = .ok (.iadd, 1) := by decide +kernel
theorem dX7_barsNow_161 : decode cX7_barsNow 161 = .ok (.aload_n 0, 1) := by decide +kernel
theorem dX7_barsNow_162 : decode cX7_barsNow 162 = .ok (.bipush 6, 2) := by decide +kernel
theorem dX7_barsNow_164 : decode cX7_barsNow 164 = .ok (.invokevirtual 208, 3) := by decide +kernel
theorem dX7_barsNow_167 : decode cX7_barsNow 167 = .ok (.aload_n 0, 1) := by decide +kernel
theorem dX7_barsNow_168 : decode cX7_barsNow 168 = .ok (.getfield 30, 3) := by decide +kernel
theorem dX7_barsNow_171 : decode cX7_barsNow 171 = .ok (.invokestatic 214, 3) := by decide +kernel
theorem dX7_barsNow_174 : decode cX7_barsNow 174 = .ok (.ifCond .eq 7, 3) := by decide +kernel
theorem dX7_barsNow_177 : decode cX7_barsNow 177 = .ok (.iconst 4, 1) := by decide +kernel
theorem dX7_barsNow_178 : decode cX7_barsNow 178 = .ok (.goto 4, 3) := by decide +kernel
theorem dX7_barsNow_181 : decode cX7_barsNow 181 = .ok (.iconst 0, 1) := by decide +kernel
theorem dX7_barsNow_182 : decode cX7_barsNow 182 = .ok (.iadd, 1) := by decide +kernel
theorem dX7_barsNow_183 : decode cX7_barsNow 183 = .ok (.istore 4, 2) := by decide +kernel
theorem dX7_barsNow_185 : decode cX7_barsNow 185 = .ok (.iload 4, 2) := by decide +kernel
theorem dX7_barsNow_187 : decode cX7_barsNow 187 = .ok (.iload_n 2, 1) := by decide +kernel
theorem dX7_barsNow_188 : decode cX7_barsNow 188 = .ok (.ifCond .eq 8, 3) := by decide +kernel
theorem dX7_barsNow_191 : decode cX7_barsNow 191 = .ok (.bipush 8, 2) := by decide +kernel
theorem dX7_barsNow_193 : decode cX7_barsNow 193 = .ok (.goto 4, 3) := by decide +kernel
theorem dX7_barsNow_196 : decode cX7_barsNow 196 = .ok (.iconst 0, 1) := by decide +kernel
theorem dX7_barsNow_197 : decode cX7_barsNow 197 = .ok (.iadd, 1) := by decide +kernel
theorem dX7_barsNow_198 : decode cX7_barsNow 198 = .ok (.iload_n 3, 1) := by decide +kernel
theorem dX7_barsNow_199 : decode cX7_barsNow 199 = .ok (.ifCond .eq 8, 3) := by decide +kernel
theorem dX7_barsNow_202 : decode cX7_barsNow 202 = .ok (.bipush 16, 2) := by decide +kernel
theorem dX7_barsNow_204 : decode cX7_barsNow 204 = .ok (.goto 4, 3) := by decide +kernel
theorem dX7_barsNow_207 : decode cX7_barsNow 207 = .ok (.iconst 0, 1) := by decide +kernel
theorem dX7_barsNow_208 : decode cX7_barsNow 208 = .ok (.iadd, 1) := by decide +kernel
theorem dX7_barsNow_209 : decode cX7_barsNow 209 = .ok (.aload_n 0, 1) := by decide +kernel
theorem dX7_barsNow_210 : decode cX7_barsNow 210 = .ok (.getfield 100, 3) := by decide +kernel
theorem dX7_barsNow_213 : decode cX7_barsNow 213 = .ok (.bipush 9, 2) := by decide +kernel
theorem dX7_barsNow_215 : decode cX7_barsNow 215 = .ok (.if_icmp .ne 8, 3) := by decide +kernel
theorem dX7_barsNow_218 : decode cX7_barsNow 218 = .ok (.bipush 32, 2) := by decide +kernel
theorem dX7_barsNow_220 : decode cX7_barsNow 220 = .ok (.goto 4, 3) := by decide +kernel
theorem dX7_barsNow_223 : decode cX7_barsNow 223 = .ok (.iconst 0, 1) := by decide +kernel
theorem dX7_barsNow_224 : decode cX7_barsNow 224 = .ok (.iadd, 1) := by decide +kernel
theorem dX7_barsNow_225 : decode cX7_barsNow 225 = .ok (.ireturn, 1) := by decide +kernel
def pX7_barsNow_b224  (y0 : Int32) (y1 : Int32) (v : St) : Option (Int32 × St) := some (y1 + y0, v)
def pX7_barsNow_b208  (y0 : Int32) (y1 : Int32) (v : St) : Option (Int32 × St) := if (v.2 5) = 9 then (pX7_barsNow_b224 32 (y1 + y0) v) else (pX7_barsNow_b224 0 (y1 + y0) v)
def pX7_barsNow_b197  (x3 : Int32) (y0 : Int32) (y1 : Int32) (v : St) : Option (Int32 × St) := if x3 = 0 then (pX7_barsNow_b208 0 (y1 + y0) v) else (pX7_barsNow_b208 16 (y1 + y0) v)
def pX7_barsNow_b182  (x2 : Int32) (x3 : Int32) (y0 : Int32) (y1 : Int32) (v : St) : Option (Int32 × St) := if x2 = 0 then (pX7_barsNow_b197 x3 0 (y1 + y0) v) else (pX7_barsNow_b197 x3 8 (y1 + y0) v)
def pX7_barsNow_b160  (x2 : Int32) (x3 : Int32) (y0 : Int32) (y1 : Int32) (v : St) : Option (Int32 × St) := bnd (pX7_momentOf 6 v) (fun r9 w10 => if (pX7_isBeyond r9 (w10.2 2)) = 0 then (pX7_barsNow_b182 x2 x3 0 (y1 + y0) w10) else (pX7_barsNow_b182 x2 x3 4 (y1 + y0) w10))
def pX7_barsNow_b140  (x2 : Int32) (x3 : Int32) (y0 : Int32) (v : St) : Option (Int32 × St) := bnd (pX7_momentOf 0 v) (fun r5 w6 => if (pX7_isBeyond r5 (w6.2 1)) = 0 then (pX7_barsNow_b160 x2 x3 0 y0 w6) else (pX7_barsNow_b160 x2 x3 2 y0 w6))
def pX7_barsNow_b124 (K81 : Int32 → Int32 → Int32 → Int32 → St → Option (Int32 × St)) (x1 : Int32) (x2 : Int32) (x4 : Int32) (y0 : Int32) (v : St) : Option (Int32 × St) := K81 x1 x2 y0 (x4 + 1) v
def pX7_barsNow_b119 (K81 : Int32 → Int32 → Int32 → Int32 → St → Option (Int32 × St)) (x1 : Int32) (x2 : Int32) (x4 : Int32) (v : St) : Option (Int32 × St) := pX7_barsNow_b124 K81 x1 x2 x4 1 v
def pX7_barsNow_b123 (K81 : Int32 → Int32 → Int32 → Int32 → St → Option (Int32 × St)) (x1 : Int32) (x2 : Int32) (x4 : Int32) (v : St) : Option (Int32 × St) := pX7_barsNow_b124 K81 x1 x2 x4 0 v
def pX7_barsNow_b81  (n : Nat) : Int32 → Int32 → Int32 → Int32 → St → Option (Int32 × St) := Nat.rec (fun _ _ _ _ _ => none) (fun _ K81 x1 x2 x3 x4 v => if (v.2 4) ≤ x4 then (if x1 = 0 then (pX7_barsNow_b140 x2 x3 0 v) else (pX7_barsNow_b140 x2 x3 1 v)) else (if x3 = 0 then (if (x4 < 0 ∨ 60 ≤ x4.toNatClampNeg) then none else (if (v.1 10 x4.toNatClampNeg) = 1 then (if (x4 < 0 ∨ 60 ≤ x4.toNatClampNeg) then none else (if (v.1 7 x4.toNatClampNeg) = (v.2 5) then (pX7_barsNow_b119 K81 x1 x2 x4 v) else (pX7_barsNow_b123 K81 x1 x2 x4 v))) else (pX7_barsNow_b123 K81 x1 x2 x4 v))) else (pX7_barsNow_b119 K81 x1 x2 x4 v))) n
def pX7_barsNow_b69 (K39 : Int32 → Int32 → Int32 → St → Option (Int32 × St)) (x1 : Int32) (x3 : Int32) (y0 : Int32) (v : St) : Option (Int32 × St) := K39 x1 y0 (x3 + 1) v
def pX7_barsNow_b64 (K39 : Int32 → Int32 → Int32 → St → Option (Int32 × St)) (x1 : Int32) (x3 : Int32) (v : St) : Option (Int32 × St) := pX7_barsNow_b69 K39 x1 x3 1 v
def pX7_barsNow_b39  (n : Nat) : Int32 → Int32 → Int32 → St → Option (Int32 × St) := Nat.rec (fun _ _ _ _ => none) (fun _ K39 x1 x2 x3 v => if 6 ≤ x3 then (pX7_barsNow_b81 100 x1 x2 0 0 v) else (if x2 = 0 then (bnd (pX7_momentOf x3 v) (fun r22 w23 => if (pX7_isBeyond r22 (w23.2 3)) = 0 then (pX7_barsNow_b69 K39 x1 x3 0 w23) else (pX7_barsNow_b64 K39 x1 x3 w23))) else (pX7_barsNow_b64 K39 x1 x3 v))) n
def pX7_barsNow_b28 (K4 : Int32 → Int32 → St → Option (Int32 × St)) (x2 : Int32) (y0 : Int32) (v : St) : Option (Int32 × St) := K4 y0 (x2 + 1) v
def pX7_barsNow_b23 (K4 : Int32 → Int32 → St → Option (Int32 × St)) (x2 : Int32) (v : St) : Option (Int32 × St) := pX7_barsNow_b28 K4 x2 1 v
def pX7_barsNow_b4  (n : Nat) : Int32 → Int32 → St → Option (Int32 × St) := Nat.rec (fun _ _ _ => none) (fun _ K4 x1 x2 v => if 6 ≤ x2 then (pX7_barsNow_b39 100 x1 0 1 v) else (if x1 = 0 then (if (x2 < 0 ∨ 6 ≤ x2.toNatClampNeg) then none else (if (v.1 2 x2.toNatClampNeg) = 0 then (pX7_barsNow_b28 K4 x2 0 v) else (pX7_barsNow_b23 K4 x2 v))) else (pX7_barsNow_b23 K4 x2 v))) n
def pX7_barsNow  (u : St) : Option (Int32 × St) := pX7_barsNow_b4 100 0 0 u
set_option maxHeartbeats 4000000 in
set_option maxRecDepth 20000 in
theorem kX7_barsNow {l : Launch} {D : va_G} {Y : Nat → ClassId} {q : Nat → Nat} {u u1 : St} {r : Int32} (hX : pX7_barsNow u = some (r, u1)) : CMi l yX7_barsNow cX7_barsNow 5 (some .int) 1 26 D Y (wM Y q u) (wM Y q u1) [.ref (q 0)] r := by
  refine cm_ofi (by decide) (Nat.le_of_ble_eq_true rfl) rfl (fun p e s m args below meth c A F hr hlk => ?_)
  show GW p l e { frames := 1, cells := 0, slots := 0, locals := 26 } s m args below meth c D A 5 0 0 (MQ below (QI D (wM Y q u1) r A) args s 0 0 A) (wM Y q u) 0 [(0, .ref (q 0))] []
  have b224 : ∀  (y0 : Int32) (y1 : Int32) (v : St), pX7_barsNow_b224  y0 y1 v = some (r, u1) → GW p l e { frames := 1, cells := 0, slots := 0, locals := 26 } s m args below meth c D A 5 0 0 (MQ below (QI D (wM Y q u1) r A) args s 0 0 A) (wM Y q v) 224 [] [.int y0, .int y1] := by
    intro  y0 y1 v hX
    have hX : (some (y1 + y0, v)) = some (r, u1) := hX
    refine g_iadd F dX7_barsNow_224 ?_
    exact g_retC (wf := wM Y q) F hr rfl hlk dX7_barsNow_225 hX
  have b208 : ∀  (y0 : Int32) (y1 : Int32) (v : St), pX7_barsNow_b208  y0 y1 v = some (r, u1) → GW p l e { frames := 1, cells := 0, slots := 0, locals := 26 } s m args below meth c D A 5 0 0 (MQ below (QI D (wM Y q u1) r A) args s 0 0 A) (wM Y q v) 208 [(0, .ref (q 0))] [.int y0, .int y1] := by
    intro  y0 y1 v hX
    have hX : (if (v.2 5) = 9 then (pX7_barsNow_b224 32 (y1 + y0) v) else (pX7_barsNow_b224 0 (y1 + y0) v)) = some (r, u1) := hX
    refine g_iadd F dX7_barsNow_208 ?_
    refine g_aload_n F dX7_barsNow_209 0 rfl rfl ?_
    refine G_X7_100 F dX7_barsNow_210 ?_
    refine g_bipush (v := 9) F dX7_barsNow_213 (by decide) ?_
    refine g_icmp_ne (tgt := 223) F dX7_barsNow_215 (by decide) (fun c15 => ?_) (fun c15 => ?_)
    · have hX := if_f hX c15
      refine g_iconst (v := 0) F dX7_barsNow_223 (by decide) ?_
      refine g_sub [] rfl ?_
      exact b224 0 (y1 + y0) v hX
    · have hX := if_t hX c15
      refine g_bipush (v := 32) F dX7_barsNow_218 (by decide) ?_
      refine g_goto (tgt := 224) F dX7_barsNow_220 (by decide) ?_
      refine g_sub [] rfl ?_
      exact b224 32 (y1 + y0) v hX
  have b197 : ∀  (x3 : Int32) (y0 : Int32) (y1 : Int32) (v : St), pX7_barsNow_b197  x3 y0 y1 v = some (r, u1) → GW p l e { frames := 1, cells := 0, slots := 0, locals := 26 } s m args below meth c D A 5 0 0 (MQ below (QI D (wM Y q u1) r A) args s 0 0 A) (wM Y q v) 197 [(0, .ref (q 0)), (3, .int x3)] [.int y0, .int y1] := by
    intro  x3 y0 y1 v hX
    have hX : (if x3 = 0 then (pX7_barsNow_b208 0 (y1 + y0) v) else (pX7_barsNow_b208 16 (y1 + y0) v)) = some (r, u1) := hX
    refine g_iadd F dX7_barsNow_197 ?_
    refine g_iload_n F dX7_barsNow_198 1 rfl rfl ?_
    refine g_if_eq (tgt := 207) F dX7_barsNow_199 (by decide) (fun c14 => ?_) (fun c14 => ?_)
    · have hX := if_t hX c14
      refine g_iconst (v := 0) F dX7_barsNow_207 (by decide) ?_
      refine g_sub [0] rfl ?_
      exact b208 0 (y1 + y0) v hX
    · have hX := if_f hX c14
      refine g_bipush (v := 16) F dX7_barsNow_202 (by decide) ?_
      refine g_goto (tgt := 208) F dX7_barsNow_204 (by decide) ?_
      refine g_sub [0] rfl ?_
      exact b208 16 (y1 + y0) v hX
  have b182 : ∀  (x2 : Int32) (x3 : Int32) (y0 : Int32) (y1 : Int32) (v : St), pX7_barsNow_b182  x2 x3 y0 y1 v = some (r, u1) → GW p l e { frames := 1, cells := 0, slots := 0, locals := 26 } s m args below meth c D A 5 0 0 (MQ below (QI D (wM Y q u1) r A) args s 0 0 A) (wM Y q v) 182 [(0, .ref (q 0)), (2, .int x2), (3, .int x3)] [.int y0, .int y1] := by
    intro  x2 x3 y0 y1 v hX
    have hX : (if x2 = 0 then (pX7_barsNow_b197 x3 0 (y1 + y0) v) else (pX7_barsNow_b197 x3 8 (y1 + y0) v)) = some (r, u1) := hX
    refine g_iadd F dX7_barsNow_182 ?_
    refine g_istore (lv' := [(4, .int (y1 + y0)), (0, .ref (q 0)), (2, .int x2), (3, .int x3)]) F dX7_barsNow_183 (by decide) rfl ?_
    refine g_iload F dX7_barsNow_185 0 rfl ?_
    refine g_iload_n F dX7_barsNow_187 2 rfl rfl ?_
    refine g_if_eq (tgt := 196) F dX7_barsNow_188 (by decide) (fun c13 => ?_) (fun c13 => ?_)
    · have hX := if_t hX c13
      refine g_iconst (v := 0) F dX7_barsNow_196 (by decide) ?_
      refine g_sub [1, 3] rfl ?_
      exact b197 x3 0 (y1 + y0) v hX
    · have hX := if_f hX c13
      refine g_bipush (v := 8) F dX7_barsNow_191 (by decide) ?_
      refine g_goto (tgt := 197) F dX7_barsNow_193 (by decide) ?_
      refine g_sub [1, 3] rfl ?_
      exact b197 x3 8 (y1 + y0) v hX
  have b160 : ∀  (x2 : Int32) (x3 : Int32) (y0 : Int32) (y1 : Int32) (v : St), pX7_barsNow_b160  x2 x3 y0 y1 v = some (r, u1) → GW p l e { frames := 1, cells := 0, slots := 0, locals := 26 } s m args below meth c D A 5 0 0 (MQ below (QI D (wM Y q u1) r A) args s 0 0 A) (wM Y q v) 160 [(0, .ref (q 0)), (2, .int x2), (3, .int x3)] [.int y0, .int y1] := by
    intro  x2 x3 y0 y1 v hX
    have hX : (bnd (pX7_momentOf 6 v) (fun r9 w10 => if (pX7_isBeyond r9 (w10.2 2)) = 0 then (pX7_barsNow_b182 x2 x3 0 (y1 + y0) w10) else (pX7_barsNow_b182 x2 x3 4 (y1 + y0) w10))) = some (r, u1) := hX
    refine g_iadd F dX7_barsNow_160 ?_
    refine g_aload_n F dX7_barsNow_161 0 rfl rfl ?_
    refine g_bipush (v := 6) F dX7_barsNow_162 (by decide) ?_
    obtain ⟨r9, w10, hc11, hX⟩ := bnd_s hX
    refine callX7_momentOf F hc11 ml_X7_208 ⟨Nat.le_of_ble_eq_true rfl, Nat.le_of_ble_eq_true rfl⟩ (Nat.le_of_ble_eq_true rfl) dX7_barsNow_164 ?_
    refine g_aload_n F dX7_barsNow_167 0 rfl rfl ?_
    refine G_X7_30 F dX7_barsNow_168 ?_
    refine callX7_isBeyond F ml_X7_214 ⟨Nat.le_of_ble_eq_true rfl, Nat.le_of_ble_eq_true rfl⟩ (Nat.le_of_ble_eq_true rfl) dX7_barsNow_171 ?_
    refine g_if_eq (tgt := 181) F dX7_barsNow_174 (by decide) (fun c12 => ?_) (fun c12 => ?_)
    · have hX := if_t hX c12
      refine g_iconst (v := 0) F dX7_barsNow_181 (by decide) ?_
      exact b182 x2 x3 0 (y1 + y0) w10 hX
    · have hX := if_f hX c12
      refine g_iconst (v := 4) F dX7_barsNow_177 (by decide) ?_
      refine g_goto (tgt := 182) F dX7_barsNow_178 (by decide) ?_
      exact b182 x2 x3 4 (y1 + y0) w10 hX
  have b140 : ∀  (x2 : Int32) (x3 : Int32) (y0 : Int32) (v : St), pX7_barsNow_b140  x2 x3 y0 v = some (r, u1) → GW p l e { frames := 1, cells := 0, slots := 0, locals := 26 } s m args below meth c D A 5 0 0 (MQ below (QI D (wM Y q u1) r A) args s 0 0 A) (wM Y q v) 140 [(0, .ref (q 0)), (2, .int x2), (3, .int x3)] [.int y0] := by
    intro  x2 x3 y0 v hX
    have hX : (bnd (pX7_momentOf 0 v) (fun r5 w6 => if (pX7_isBeyond r5 (w6.2 1)) = 0 then (pX7_barsNow_b160 x2 x3 0 y0 w6) else (pX7_barsNow_b160 x2 x3 2 y0 w6))) = some (r, u1) := hX
    refine g_aload_n F dX7_barsNow_140 0 rfl rfl ?_
    refine g_iconst (v := 0) F dX7_barsNow_141 (by decide) ?_
    obtain ⟨r5, w6, hc7, hX⟩ := bnd_s hX
    refine callX7_momentOf F hc7 ml_X7_208 ⟨Nat.le_of_ble_eq_true rfl, Nat.le_of_ble_eq_true rfl⟩ (Nat.le_of_ble_eq_true rfl) dX7_barsNow_142 ?_
    refine g_aload_n F dX7_barsNow_145 0 rfl rfl ?_
    refine G_X7_26 F dX7_barsNow_146 ?_
    refine callX7_isBeyond F ml_X7_214 ⟨Nat.le_of_ble_eq_true rfl, Nat.le_of_ble_eq_true rfl⟩ (Nat.le_of_ble_eq_true rfl) dX7_barsNow_149 ?_
    refine g_if_eq (tgt := 159) F dX7_barsNow_152 (by decide) (fun c8 => ?_) (fun c8 => ?_)
    · have hX := if_t hX c8
      refine g_iconst (v := 0) F dX7_barsNow_159 (by decide) ?_
      exact b160 x2 x3 0 y0 w6 hX
    · have hX := if_f hX c8
      refine g_iconst (v := 2) F dX7_barsNow_155 (by decide) ?_
      refine g_goto (tgt := 160) F dX7_barsNow_156 (by decide) ?_
      exact b160 x2 x3 2 y0 w6 hX
  have b124 : ∀ (K81 : Int32 → Int32 → Int32 → Int32 → St → Option (Int32 × St)) (hK81 : ∀ (x1 : Int32) (x2 : Int32) (x3 : Int32) (x4 : Int32) (v : St), K81 x1 x2 x3 x4 v = some (r, u1) → GW p l e { frames := 1, cells := 0, slots := 0, locals := 26 } s m args below meth c D A 5 0 0 (MQ below (QI D (wM Y q u1) r A) args s 0 0 A) (wM Y q v) 81 [(0, .ref (q 0)), (1, .int x1), (2, .int x2), (3, .int x3), (4, .int x4)] []) (x1 : Int32) (x2 : Int32) (x4 : Int32) (y0 : Int32) (v : St), pX7_barsNow_b124 K81 x1 x2 x4 y0 v = some (r, u1) → GW p l e { frames := 1, cells := 0, slots := 0, locals := 26 } s m args below meth c D A 5 0 0 (MQ below (QI D (wM Y q u1) r A) args s 0 0 A) (wM Y q v) 124 [(0, .ref (q 0)), (1, .int x1), (2, .int x2), (4, .int x4)] [.int y0] := by
    intro K81 hK81 x1 x2 x4 y0 v hX
    have hX : (K81 x1 x2 y0 (x4 + 1) v) = some (r, u1) := hX
    refine g_istore_n (lv' := [(3, .int y0), (0, .ref (q 0)), (1, .int x1), (2, .int x2), (4, .int x4)]) F dX7_barsNow_124 rfl (by decide) rfl ?_
    refine g_iinc (v := x4 + 1) (lv' := [(4, .int (x4 + 1)), (3, .int y0), (0, .ref (q 0)), (1, .int x1), (2, .int x2)]) F dX7_barsNow_125 4 rfl rfl (by decide) rfl ?_
    refine g_goto (tgt := 81) F dX7_barsNow_128 (by decide) ?_
    refine g_sub [2, 3, 4, 1, 0] rfl ?_
    exact hK81 x1 x2 y0 (x4 + 1) v hX
  have b119 : ∀ (K81 : Int32 → Int32 → Int32 → Int32 → St → Option (Int32 × St)) (hK81 : ∀ (x1 : Int32) (x2 : Int32) (x3 : Int32) (x4 : Int32) (v : St), K81 x1 x2 x3 x4 v = some (r, u1) → GW p l e { frames := 1, cells := 0, slots := 0, locals := 26 } s m args below meth c D A 5 0 0 (MQ below (QI D (wM Y q u1) r A) args s 0 0 A) (wM Y q v) 81 [(0, .ref (q 0)), (1, .int x1), (2, .int x2), (3, .int x3), (4, .int x4)] []) (x1 : Int32) (x2 : Int32) (x4 : Int32) (v : St), pX7_barsNow_b119 K81 x1 x2 x4 v = some (r, u1) → GW p l e { frames := 1, cells := 0, slots := 0, locals := 26 } s m args below meth c D A 5 0 0 (MQ below (QI D (wM Y q u1) r A) args s 0 0 A) (wM Y q v) 119 [(0, .ref (q 0)), (1, .int x1), (2, .int x2), (4, .int x4)] [] := by
    intro K81 hK81 x1 x2 x4 v hX
    have hX : (pX7_barsNow_b124 K81 x1 x2 x4 1 v) = some (r, u1) := hX
    refine g_iconst (v := 1) F dX7_barsNow_119 (by decide) ?_
    refine g_goto (tgt := 124) F dX7_barsNow_120 (by decide) ?_
    exact b124 K81 hK81 x1 x2 x4 1 v hX
  have b123 : ∀ (K81 : Int32 → Int32 → Int32 → Int32 → St → Option (Int32 × St)) (hK81 : ∀ (x1 : Int32) (x2 : Int32) (x3 : Int32) (x4 : Int32) (v : St), K81 x1 x2 x3 x4 v = some (r, u1) → GW p l e { frames := 1, cells := 0, slots := 0, locals := 26 } s m args below meth c D A 5 0 0 (MQ below (QI D (wM Y q u1) r A) args s 0 0 A) (wM Y q v) 81 [(0, .ref (q 0)), (1, .int x1), (2, .int x2), (3, .int x3), (4, .int x4)] []) (x1 : Int32) (x2 : Int32) (x4 : Int32) (v : St), pX7_barsNow_b123 K81 x1 x2 x4 v = some (r, u1) → GW p l e { frames := 1, cells := 0, slots := 0, locals := 26 } s m args below meth c D A 5 0 0 (MQ below (QI D (wM Y q u1) r A) args s 0 0 A) (wM Y q v) 123 [(0, .ref (q 0)), (1, .int x1), (2, .int x2), (4, .int x4)] [] := by
    intro K81 hK81 x1 x2 x4 v hX
    have hX : (pX7_barsNow_b124 K81 x1 x2 x4 0 v) = some (r, u1) := hX
    refine g_iconst (v := 0) F dX7_barsNow_123 (by decide) ?_
    exact b124 K81 hK81 x1 x2 x4 0 v hX
  have b81 : ∀  (n : Nat) (x1 : Int32) (x2 : Int32) (x3 : Int32) (x4 : Int32) (v : St), pX7_barsNow_b81  n x1 x2 x3 x4 v = some (r, u1) → GW p l e { frames := 1, cells := 0, slots := 0, locals := 26 } s m args below meth c D A 5 0 0 (MQ below (QI D (wM Y q u1) r A) args s 0 0 A) (wM Y q v) 81 [(0, .ref (q 0)), (1, .int x1), (2, .int x2), (3, .int x3), (4, .int x4)] [] := by
    intro  n
    induction n with
    | zero => intro x1 x2 x3 x4 v hX; cases hX
    | succ n ih =>
      intro x1 x2 x3 x4 v hX
      obtain ⟨K81, eK⟩ : ∃ K : Int32 → Int32 → Int32 → Int32 → St → Option (Int32 × St), K = pX7_barsNow_b81  n := ⟨_, rfl⟩
      have hK81 : ∀ (x1 : Int32) (x2 : Int32) (x3 : Int32) (x4 : Int32) (v : St), K81 x1 x2 x3 x4 v = some (r, u1) → GW p l e { frames := 1, cells := 0, slots := 0, locals := 26 } s m args below meth c D A 5 0 0 (MQ below (QI D (wM Y q u1) r A) args s 0 0 A) (wM Y q v) 81 [(0, .ref (q 0)), (1, .int x1), (2, .int x2), (3, .int x3), (4, .int x4)] [] := by rw [eK]; exact ih
      have hX : (if (v.2 4) ≤ x4 then (if x1 = 0 then (pX7_barsNow_b140 x2 x3 0 v) else (pX7_barsNow_b140 x2 x3 1 v)) else (if x3 = 0 then (if (x4 < 0 ∨ 60 ≤ x4.toNatClampNeg) then none else (if (v.1 10 x4.toNatClampNeg) = 1 then (if (x4 < 0 ∨ 60 ≤ x4.toNatClampNeg) then none else (if (v.1 7 x4.toNatClampNeg) = (v.2 5) then (pX7_barsNow_b119 K81 x1 x2 x4 v) else (pX7_barsNow_b123 K81 x1 x2 x4 v))) else (pX7_barsNow_b123 K81 x1 x2 x4 v))) else (pX7_barsNow_b119 K81 x1 x2 x4 v))) = some (r, u1) := by rw [eK]; exact hX
      refine g_iload F dX7_barsNow_81 4 rfl ?_
      refine g_aload_n F dX7_barsNow_83 0 rfl rfl ?_
      refine G_X7_94 F dX7_barsNow_84 ?_
      refine g_icmp_ge (tgt := 131) F dX7_barsNow_87 (by decide) (fun c3 => ?_) (fun c3 => ?_)
      · have hX := if_t hX c3
        refine g_iload_n F dX7_barsNow_131 1 rfl rfl ?_
        refine g_if_eq (tgt := 139) F dX7_barsNow_132 (by decide) (fun c4 => ?_) (fun c4 => ?_)
        · have hX := if_t hX c4
          refine g_iconst (v := 0) F dX7_barsNow_139 (by decide) ?_
          refine g_sub [0, 2, 3] rfl ?_
          exact b140 x2 x3 0 v hX
        · have hX := if_f hX c4
          refine g_iconst (v := 1) F dX7_barsNow_135 (by decide) ?_
          refine g_goto (tgt := 140) F dX7_barsNow_136 (by decide) ?_
          refine g_sub [0, 2, 3] rfl ?_
          exact b140 x2 x3 1 v hX
      · have hX := if_f hX c3
        refine g_iload_n F dX7_barsNow_90 3 rfl rfl ?_
        refine g_if_ne (tgt := 119) F dX7_barsNow_91 (by decide) (fun c16 => ?_) (fun c16 => ?_)
        · have hX := if_f hX c16
          refine g_sub [0, 1, 2, 4] rfl ?_
          exact b119 K81 hK81 x1 x2 x4 v hX
        · have hX := if_t hX c16
          refine g_aload_n F dX7_barsNow_94 0 rfl rfl ?_
          refine G_X7_51 F dX7_barsNow_95 ?_
          refine g_iload F dX7_barsNow_98 4 rfl ?_
          obtain ⟨hI17, hX⟩ := inb hX
          refine AL_10 F hI17 dX7_barsNow_100 ?_
          refine g_iconst (v := 1) F dX7_barsNow_101 (by decide) ?_
          refine g_icmp_ne (tgt := 123) F dX7_barsNow_102 (by decide) (fun c18 => ?_) (fun c18 => ?_)
          · have hX := if_f hX c18
            refine g_sub [0, 1, 2, 4] rfl ?_
            exact b123 K81 hK81 x1 x2 x4 v hX
          · have hX := if_t hX c18
            refine g_aload_n F dX7_barsNow_105 0 rfl rfl ?_
            refine G_X7_42 F dX7_barsNow_106 ?_
            refine g_iload F dX7_barsNow_109 4 rfl ?_
            obtain ⟨hI19, hX⟩ := inb hX
            refine AL_7 F hI19 dX7_barsNow_111 ?_
            refine g_aload_n F dX7_barsNow_112 0 rfl rfl ?_
            refine G_X7_100 F dX7_barsNow_113 ?_
            refine g_icmp_ne (tgt := 123) F dX7_barsNow_116 (by decide) (fun c20 => ?_) (fun c20 => ?_)
            · have hX := if_f hX c20
              refine g_sub [0, 1, 2, 4] rfl ?_
              exact b123 K81 hK81 x1 x2 x4 v hX
            · have hX := if_t hX c20
              refine g_sub [0, 1, 2, 4] rfl ?_
              exact b119 K81 hK81 x1 x2 x4 v hX
  have b69 : ∀ (K39 : Int32 → Int32 → Int32 → St → Option (Int32 × St)) (hK39 : ∀ (x1 : Int32) (x2 : Int32) (x3 : Int32) (v : St), K39 x1 x2 x3 v = some (r, u1) → GW p l e { frames := 1, cells := 0, slots := 0, locals := 26 } s m args below meth c D A 5 0 0 (MQ below (QI D (wM Y q u1) r A) args s 0 0 A) (wM Y q v) 39 [(0, .ref (q 0)), (1, .int x1), (2, .int x2), (3, .int x3)] []) (x1 : Int32) (x3 : Int32) (y0 : Int32) (v : St), pX7_barsNow_b69 K39 x1 x3 y0 v = some (r, u1) → GW p l e { frames := 1, cells := 0, slots := 0, locals := 26 } s m args below meth c D A 5 0 0 (MQ below (QI D (wM Y q u1) r A) args s 0 0 A) (wM Y q v) 69 [(0, .ref (q 0)), (1, .int x1), (3, .int x3)] [.int y0] := by
    intro K39 hK39 x1 x3 y0 v hX
    have hX : (K39 x1 y0 (x3 + 1) v) = some (r, u1) := hX
    refine g_istore_n (lv' := [(2, .int y0), (0, .ref (q 0)), (1, .int x1), (3, .int x3)]) F dX7_barsNow_69 rfl (by decide) rfl ?_
    refine g_iinc (v := x3 + 1) (lv' := [(3, .int (x3 + 1)), (2, .int y0), (0, .ref (q 0)), (1, .int x1)]) F dX7_barsNow_70 3 rfl rfl (by decide) rfl ?_
    refine g_goto (tgt := 39) F dX7_barsNow_73 (by decide) ?_
    refine g_sub [2, 3, 1, 0] rfl ?_
    exact hK39 x1 y0 (x3 + 1) v hX
  have b64 : ∀ (K39 : Int32 → Int32 → Int32 → St → Option (Int32 × St)) (hK39 : ∀ (x1 : Int32) (x2 : Int32) (x3 : Int32) (v : St), K39 x1 x2 x3 v = some (r, u1) → GW p l e { frames := 1, cells := 0, slots := 0, locals := 26 } s m args below meth c D A 5 0 0 (MQ below (QI D (wM Y q u1) r A) args s 0 0 A) (wM Y q v) 39 [(0, .ref (q 0)), (1, .int x1), (2, .int x2), (3, .int x3)] []) (x1 : Int32) (x3 : Int32) (v : St), pX7_barsNow_b64 K39 x1 x3 v = some (r, u1) → GW p l e { frames := 1, cells := 0, slots := 0, locals := 26 } s m args below meth c D A 5 0 0 (MQ below (QI D (wM Y q u1) r A) args s 0 0 A) (wM Y q v) 64 [(0, .ref (q 0)), (1, .int x1), (3, .int x3)] [] := by
    intro K39 hK39 x1 x3 v hX
    have hX : (pX7_barsNow_b69 K39 x1 x3 1 v) = some (r, u1) := hX
    refine g_iconst (v := 1) F dX7_barsNow_64 (by decide) ?_
    refine g_goto (tgt := 69) F dX7_barsNow_65 (by decide) ?_
    exact b69 K39 hK39 x1 x3 1 v hX
  have b39 : ∀  (n : Nat) (x1 : Int32) (x2 : Int32) (x3 : Int32) (v : St), pX7_barsNow_b39  n x1 x2 x3 v = some (r, u1) → GW p l e { frames := 1, cells := 0, slots := 0, locals := 26 } s m args below meth c D A 5 0 0 (MQ below (QI D (wM Y q u1) r A) args s 0 0 A) (wM Y q v) 39 [(0, .ref (q 0)), (1, .int x1), (2, .int x2), (3, .int x3)] [] := by
    intro  n
    induction n with
    | zero => intro x1 x2 x3 v hX; cases hX
    | succ n ih =>
      intro x1 x2 x3 v hX
      obtain ⟨K39, eK⟩ : ∃ K : Int32 → Int32 → Int32 → St → Option (Int32 × St), K = pX7_barsNow_b39  n := ⟨_, rfl⟩
      have hK39 : ∀ (x1 : Int32) (x2 : Int32) (x3 : Int32) (v : St), K39 x1 x2 x3 v = some (r, u1) → GW p l e { frames := 1, cells := 0, slots := 0, locals := 26 } s m args below meth c D A 5 0 0 (MQ below (QI D (wM Y q u1) r A) args s 0 0 A) (wM Y q v) 39 [(0, .ref (q 0)), (1, .int x1), (2, .int x2), (3, .int x3)] [] := by rw [eK]; exact ih
      have hX : (if 6 ≤ x3 then (pX7_barsNow_b81 100 x1 x2 0 0 v) else (if x2 = 0 then (bnd (pX7_momentOf x3 v) (fun r22 w23 => if (pX7_isBeyond r22 (w23.2 3)) = 0 then (pX7_barsNow_b69 K39 x1 x3 0 w23) else (pX7_barsNow_b64 K39 x1 x3 w23))) else (pX7_barsNow_b64 K39 x1 x3 v))) = some (r, u1) := by rw [eK]; exact hX
      refine g_iload_n F dX7_barsNow_39 3 rfl rfl ?_
      refine g_bipush (v := 6) F dX7_barsNow_40 (by decide) ?_
      refine g_icmp_ge (tgt := 76) F dX7_barsNow_42 (by decide) (fun c2 => ?_) (fun c2 => ?_)
      · have hX := if_t hX c2
        refine g_iconst (v := 0) F dX7_barsNow_76 (by decide) ?_
        refine g_istore_n (lv' := [(3, .int 0), (0, .ref (q 0)), (1, .int x1), (2, .int x2)]) F dX7_barsNow_77 rfl (by decide) rfl ?_
        refine g_iconst (v := 0) F dX7_barsNow_78 (by decide) ?_
        refine g_istore (lv' := [(4, .int 0), (3, .int 0), (0, .ref (q 0)), (1, .int x1), (2, .int x2)]) F dX7_barsNow_79 (by decide) rfl ?_
        refine g_sub [2, 3, 4, 1, 0] rfl ?_
        exact b81 100 x1 x2 0 0 v hX
      · have hX := if_f hX c2
        refine g_iload_n F dX7_barsNow_45 2 rfl rfl ?_
        refine g_if_ne (tgt := 64) F dX7_barsNow_46 (by decide) (fun c21 => ?_) (fun c21 => ?_)
        · have hX := if_f hX c21
          refine g_sub [0, 1, 3] rfl ?_
          exact b64 K39 hK39 x1 x3 v hX
        · have hX := if_t hX c21
          refine g_aload_n F dX7_barsNow_49 0 rfl rfl ?_
          refine g_iload_n F dX7_barsNow_50 3 rfl rfl ?_
          obtain ⟨r22, w23, hc24, hX⟩ := bnd_s hX
          refine callX7_momentOf F hc24 ml_X7_208 ⟨Nat.le_of_ble_eq_true rfl, Nat.le_of_ble_eq_true rfl⟩ (Nat.le_of_ble_eq_true rfl) dX7_barsNow_51 ?_
          refine g_aload_n F dX7_barsNow_54 0 rfl rfl ?_
          refine G_X7_33 F dX7_barsNow_55 ?_
          refine callX7_isBeyond F ml_X7_214 ⟨Nat.le_of_ble_eq_true rfl, Nat.le_of_ble_eq_true rfl⟩ (Nat.le_of_ble_eq_true rfl) dX7_barsNow_58 ?_
          refine g_if_eq (tgt := 68) F dX7_barsNow_61 (by decide) (fun c25 => ?_) (fun c25 => ?_)
          · have hX := if_t hX c25
            refine g_iconst (v := 0) F dX7_barsNow_68 (by decide) ?_
            refine g_sub [0, 1, 3] rfl ?_
            exact b69 K39 hK39 x1 x3 0 w23 hX
          · have hX := if_f hX c25
            refine g_sub [0, 1, 3] rfl ?_
            exact b64 K39 hK39 x1 x3 w23 hX
  have b28 : ∀ (K4 : Int32 → Int32 → St → Option (Int32 × St)) (hK4 : ∀ (x1 : Int32) (x2 : Int32) (v : St), K4 x1 x2 v = some (r, u1) → GW p l e { frames := 1, cells := 0, slots := 0, locals := 26 } s m args below meth c D A 5 0 0 (MQ below (QI D (wM Y q u1) r A) args s 0 0 A) (wM Y q v) 4 [(0, .ref (q 0)), (1, .int x1), (2, .int x2)] []) (x2 : Int32) (y0 : Int32) (v : St), pX7_barsNow_b28 K4 x2 y0 v = some (r, u1) → GW p l e { frames := 1, cells := 0, slots := 0, locals := 26 } s m args below meth c D A 5 0 0 (MQ below (QI D (wM Y q u1) r A) args s 0 0 A) (wM Y q v) 28 [(0, .ref (q 0)), (2, .int x2)] [.int y0] := by
    intro K4 hK4 x2 y0 v hX
    have hX : (K4 y0 (x2 + 1) v) = some (r, u1) := hX
    refine g_istore_n (lv' := [(1, .int y0), (0, .ref (q 0)), (2, .int x2)]) F dX7_barsNow_28 rfl (by decide) rfl ?_
    refine g_iinc (v := x2 + 1) (lv' := [(2, .int (x2 + 1)), (1, .int y0), (0, .ref (q 0))]) F dX7_barsNow_29 2 rfl rfl (by decide) rfl ?_
    refine g_goto (tgt := 4) F dX7_barsNow_32 (by decide) ?_
    refine g_sub [2, 1, 0] rfl ?_
    exact hK4 y0 (x2 + 1) v hX
  have b23 : ∀ (K4 : Int32 → Int32 → St → Option (Int32 × St)) (hK4 : ∀ (x1 : Int32) (x2 : Int32) (v : St), K4 x1 x2 v = some (r, u1) → GW p l e { frames := 1, cells := 0, slots := 0, locals := 26 } s m args below meth c D A 5 0 0 (MQ below (QI D (wM Y q u1) r A) args s 0 0 A) (wM Y q v) 4 [(0, .ref (q 0)), (1, .int x1), (2, .int x2)] []) (x2 : Int32) (v : St), pX7_barsNow_b23 K4 x2 v = some (r, u1) → GW p l e { frames := 1, cells := 0, slots := 0, locals := 26 } s m args below meth c D A 5 0 0 (MQ below (QI D (wM Y q u1) r A) args s 0 0 A) (wM Y q v) 23 [(0, .ref (q 0)), (2, .int x2)] [] := by
    intro K4 hK4 x2 v hX
    have hX : (pX7_barsNow_b28 K4 x2 1 v) = some (r, u1) := hX
    refine g_iconst (v := 1) F dX7_barsNow_23 (by decide) ?_
    refine g_goto (tgt := 28) F dX7_barsNow_24 (by decide) ?_
    exact b28 K4 hK4 x2 1 v hX
  have b4 : ∀  (n : Nat) (x1 : Int32) (x2 : Int32) (v : St), pX7_barsNow_b4  n x1 x2 v = some (r, u1) → GW p l e { frames := 1, cells := 0, slots := 0, locals := 26 } s m args below meth c D A 5 0 0 (MQ below (QI D (wM Y q u1) r A) args s 0 0 A) (wM Y q v) 4 [(0, .ref (q 0)), (1, .int x1), (2, .int x2)] [] := by
    intro  n
    induction n with
    | zero => intro x1 x2 v hX; cases hX
    | succ n ih =>
      intro x1 x2 v hX
      obtain ⟨K4, eK⟩ : ∃ K : Int32 → Int32 → St → Option (Int32 × St), K = pX7_barsNow_b4  n := ⟨_, rfl⟩
      have hK4 : ∀ (x1 : Int32) (x2 : Int32) (v : St), K4 x1 x2 v = some (r, u1) → GW p l e { frames := 1, cells := 0, slots := 0, locals := 26 } s m args below meth c D A 5 0 0 (MQ below (QI D (wM Y q u1) r A) args s 0 0 A) (wM Y q v) 4 [(0, .ref (q 0)), (1, .int x1), (2, .int x2)] [] := by rw [eK]; exact ih
      have hX : (if 6 ≤ x2 then (pX7_barsNow_b39 100 x1 0 1 v) else (if x1 = 0 then (if (x2 < 0 ∨ 6 ≤ x2.toNatClampNeg) then none else (if (v.1 2 x2.toNatClampNeg) = 0 then (pX7_barsNow_b28 K4 x2 0 v) else (pX7_barsNow_b23 K4 x2 v))) else (pX7_barsNow_b23 K4 x2 v))) = some (r, u1) := by rw [eK]; exact hX
      refine g_iload_n F dX7_barsNow_4 2 rfl rfl ?_
      refine g_bipush (v := 6) F dX7_barsNow_5 (by decide) ?_
      refine g_icmp_ge (tgt := 35) F dX7_barsNow_7 (by decide) (fun c1 => ?_) (fun c1 => ?_)
      · have hX := if_t hX c1
        refine g_iconst (v := 0) F dX7_barsNow_35 (by decide) ?_
        refine g_istore_n (lv' := [(2, .int 0), (0, .ref (q 0)), (1, .int x1)]) F dX7_barsNow_36 rfl (by decide) rfl ?_
        refine g_iconst (v := 1) F dX7_barsNow_37 (by decide) ?_
        refine g_istore_n (lv' := [(3, .int 1), (2, .int 0), (0, .ref (q 0)), (1, .int x1)]) F dX7_barsNow_38 rfl (by decide) rfl ?_
        refine g_sub [2, 3, 1, 0] rfl ?_
        exact b39 100 x1 0 1 v hX
      · have hX := if_f hX c1
        refine g_iload_n F dX7_barsNow_10 1 rfl rfl ?_
        refine g_if_ne (tgt := 23) F dX7_barsNow_11 (by decide) (fun c26 => ?_) (fun c26 => ?_)
        · have hX := if_f hX c26
          refine g_sub [0, 2] rfl ?_
          exact b23 K4 hK4 x2 v hX
        · have hX := if_t hX c26
          refine g_aload_n F dX7_barsNow_14 0 rfl rfl ?_
          refine G_X7_17 F dX7_barsNow_15 ?_
          refine g_iload_n F dX7_barsNow_18 2 rfl rfl ?_
          obtain ⟨hI27, hX⟩ := inb hX
          refine AL_2 F hI27 dX7_barsNow_19 ?_
          refine g_if_eq (tgt := 27) F dX7_barsNow_20 (by decide) (fun c28 => ?_) (fun c28 => ?_)
          · have hX := if_t hX c28
            refine g_iconst (v := 0) F dX7_barsNow_27 (by decide) ?_
            refine g_sub [0, 2] rfl ?_
            exact b28 K4 hK4 x2 0 v hX
          · have hX := if_f hX c28
            refine g_sub [0, 2] rfl ?_
            exact b23 K4 hK4 x2 v hX
  have hX : (pX7_barsNow_b4 100 0 0 u) = some (r, u1) := hX
  refine g_iconst (v := 0) F dX7_barsNow_0 (by decide) ?_
  refine g_istore_n (lv' := [(1, .int 0), (0, .ref (q 0))]) F dX7_barsNow_1 rfl (by decide) rfl ?_
  refine g_iconst (v := 0) F dX7_barsNow_2 (by decide) ?_
  refine g_istore_n (lv' := [(2, .int 0), (1, .int 0), (0, .ref (q 0))]) F dX7_barsNow_3 rfl (by decide) rfl ?_
  refine g_sub [2, 1, 0] rfl ?_
  exact b4 100 0 0 u hX
theorem callX7_barsNow {p : Program} {l : Launch} {e : Env} {R : Room} {s : State} {m : MethodId} {args : Array Value} {below : List Frame} {meth : Method} {c : Code} {D : va_G} {Y : Nat → ClassId} {A : Nat → Prop} {cc : ByteArray} {nL : Nat} {own : String} {Q : State → Prop} {pc : Nat} {lv : List (Nat × Value)} {rest : List Value} {q : Nat → Nat} {u u1 : St} {r : Int32} (F : Fx p s m args c D Y A cc nL own) (hX : pX7_barsNow u = some (r, u1)) {index : Nat} (hml : Cond.methodLink own index yX7_barsNow ∈ TBL) (hR : 1 + 1 ≤ R.frames ∧ 8 + (5 + 11) + 26 ≤ R.locals) (hcat : (rest.map fun v => v.category).sum ≤ 8) (hd : decode cc pc = .ok (.invokevirtual index, 3)) (kk : GW p l e R s m args below meth c D A nL 0 0 Q (wM Y q u1) (pc + 3) lv (.int r :: rest)) : GW p l e R s m args below meth c D A nL 0 0 Q (wM Y q u) pc lv (.ref (q 0) :: rest) := g_callVi (ws := wM Y q u) (n := 0) (q0 := 0) (As := []) F [] [] (kX7_barsNow hX) (List.append_nil _).symm (List.append_nil _) (by unfold mOK; decide +kernel) rfl rfl cd_yX7_barsNow hml im_yX7_barsNow se_yX7_barsNow in_X7 rfl rfl hR ⟨Nat.zero_le _, Nat.zero_le _⟩ rfl hcat hd kk
