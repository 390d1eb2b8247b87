/-! static methods (by program: wip/whole/gen/gen.py) -/
theorem dX4_cellOf_0 : decode cX4_cellOf 0 = .ok (.iload_n 0, 1) := by decide +kernel
theorem dX4_cellOf_1 : decode cX4_cellOf 1 = .ok (.bipush 100, 2) := by decide +kernel
theorem dX4_cellOf_3 : decode cX4_cellOf 3 = .ok (.idiv, 1) := by decide +kernel
theorem dX4_cellOf_4 : decode cX4_cellOf 4 = .ok (.iconst 3, 1) := by decide +kernel
theorem dX4_cellOf_5 : decode cX4_cellOf 5 = .ok (.imul, 1) := by decide +kernel
theorem dX4_cellOf_6 : decode cX4_cellOf 6 = .ok (.iload_n 0, 1) := by decide +kernel
theorem dX4_cellOf_7 : decode cX4_cellOf 7 = .ok (.bipush 10, 2) := by decide +kernel
theorem dX4_cellOf_9 : decode cX4_cellOf 9 = .ok (.idiv, 1) := by decide +kernel
theorem dX4_cellOf_10 : decode cX4_cellOf 10 = .ok (.bipush 10, 2) := by decide +kernel
theorem dX4_cellOf_12 : decode cX4_cellOf 12 = .ok (.irem, 1) := by decide +kernel
theorem dX4_cellOf_13 : decode cX4_cellOf 13 = .ok (.iadd, 1) := by decide +kernel
theorem dX4_cellOf_14 : decode cX4_cellOf 14 = .ok (.iconst 4, 1) := by decide +kernel
theorem dX4_cellOf_15 : decode cX4_cellOf 15 = .ok (.imul, 1) := by decide +kernel
theorem dX4_cellOf_16 : decode cX4_cellOf 16 = .ok (.iload_n 0, 1) := by decide +kernel
theorem dX4_cellOf_17 : decode cX4_cellOf 17 = .ok (.bipush 10, 2) := by decide +kernel
theorem dX4_cellOf_19 : decode cX4_cellOf 19 = .ok (.irem, 1) := by decide +kernel
theorem dX4_cellOf_20 : decode cX4_cellOf 20 = .ok (.iadd, 1) := by decide +kernel
theorem dX4_cellOf_21 : decode cX4_cellOf 21 = .ok (.ireturn, 1) := by decide +kernel
def pX4_cellOf (a1 : Int32) : Int32 := ((((a1 / 100) * 3) + ((a1 / 10) - (a1 / 10) / 10 * 10)) * 4) + (a1 - a1 / 10 * 10)
set_option maxHeartbeats 4000000 in
set_option maxRecDepth 20000 in
theorem kX4_cellOf {l : Launch} {D : va_G} {Y : Nat → ClassId} {a1 : Int32} : CMi l yX4_cellOf cX4_cellOf 1 (some .int) 0 0 D Y [] [] [.int a1] (pX4_cellOf a1) := by
  obtain ⟨r, hX⟩ : ∃ r, pX4_cellOf a1 = r := ⟨_, rfl⟩
  rw [hX]
  refine cm_ofi (by decide) (Nat.le_of_ble_eq_true rfl) rfl (fun p e s m args below meth c A F hr hlk => ?_)
  show GW p l e { frames := 0, cells := 0, slots := 0, locals := 0 } s m args below meth c D A 1 0 0 (MQ below (QI D [] r A) args s 0 0 A) [] 0 [(0, .int a1)] []
  have hX : (((((a1 / 100) * 3) + ((a1 / 10) - (a1 / 10) / 10 * 10)) * 4) + (a1 - a1 / 10 * 10)) = r := hX
  refine g_iload_n F dX4_cellOf_0 0 rfl rfl ?_
  refine g_bipush (v := 100) F dX4_cellOf_1 (by decide) ?_
  refine g_idiv F dX4_cellOf_3 (by decide) ?_
  refine g_iconst (v := 3) F dX4_cellOf_4 (by decide) ?_
  refine g_imul F dX4_cellOf_5 ?_
  refine g_iload_n F dX4_cellOf_6 0 rfl rfl ?_
  refine g_bipush (v := 10) F dX4_cellOf_7 (by decide) ?_
  refine g_idiv F dX4_cellOf_9 (by decide) ?_
  refine g_bipush (v := 10) F dX4_cellOf_10 (by decide) ?_
  refine g_irem F dX4_cellOf_12 (by decide) ?_
  refine g_iadd F dX4_cellOf_13 ?_
  refine g_iconst (v := 4) F dX4_cellOf_14 (by decide) ?_
  refine g_imul F dX4_cellOf_15 ?_
  refine g_iload_n F dX4_cellOf_16 0 rfl rfl ?_
  refine g_bipush (v := 10) F dX4_cellOf_17 (by decide) ?_
  refine g_irem F dX4_cellOf_19 (by decide) ?_
  refine g_iadd F dX4_cellOf_20 ?_
  exact g_retS F hr rfl hlk dX4_cellOf_21 hX
theorem callX4_cellOf {p : Program} {l : Launch} {e : Env} {R : Room} {s : State} {m : MethodId} {args : Array Value} {below : List Frame} {meth : Method} {c : Code} {D : va_G} {Y : Nat → ClassId} {A : Nat → Prop} {cc : ByteArray} {nL : Nat} {own : String} {Q : State → Prop} {pc : Nat} {lv : List (Nat × Value)} {rest : List Value} {cells slots : Nat} {ws : va_W} {a1 : Int32} (F : Fx p s m args c D Y A cc nL own) {index : Nat} (hml : Cond.methodLink own index yX4_cellOf ∈ TBL) (hR : 0 + 1 ≤ R.frames ∧ 8 + (1 + 11) + 0 ≤ R.locals) (hcat : (rest.map fun v => v.category).sum ≤ 8) (hd : decode cc pc = .ok (.invokestatic index, 3)) (kk : GW p l e R s m args below meth c D A nL cells slots Q ws (pc + 3) lv (.int (pX4_cellOf a1) :: rest)) (hcs : cells ≤ R.cells ∧ slots ≤ R.slots := by exact ⟨Nat.zero_le _, Nat.zero_le _⟩) : GW p l e R s m args below meth c D A nL cells slots Q ws pc lv (.int a1 :: rest) := g_callS (n := 1) F kX4_cellOf (by unfold mOK; decide +kernel) rfl cd_yX4_cellOf hml st_yX4_cellOf in_X4 hR hcs rfl hcat hd kk
theorem dX6_isWithin_0 : decode cX6_isWithin 0 = .ok (.iload_n 0, 1) := by decide +kernel
theorem dX6_isWithin_1 : decode cX6_isWithin 1 = .ok (.iload_n 1, 1) := by decide +kernel
theorem dX6_isWithin_2 : decode cX6_isWithin 2 = .ok (.if_icmp .lt 12, 3) := by decide +kernel
theorem dX6_isWithin_5 : decode cX6_isWithin 5 = .ok (.iload_n 0, 1) := by decide +kernel
theorem dX6_isWithin_6 : decode cX6_isWithin 6 = .ok (.iload_n 2, 1) := by decide +kernel
theorem dX6_isWithin_7 : decode cX6_isWithin 7 = .ok (.if_icmp .gt 7, 3) := by decide +kernel
theorem dX6_isWithin_10 : decode cX6_isWithin 10 = .ok (.iconst 1, 1) := by decide +kernel
theorem dX6_isWithin_11 : decode cX6_isWithin 11 = .ok (.goto 4, 3) := by decide +kernel
theorem dX6_isWithin_14 : decode cX6_isWithin 14 = .ok (.iconst 0, 1) := by decide +kernel
theorem dX6_isWithin_15 : decode cX6_isWithin 15 = .ok (.ireturn, 1) := by decide +kernel
def pX6_isWithin_b14   : Int32 := 0
def pX6_isWithin (a1 : Int32) (a2 : Int32) (a3 : Int32) : Int32 := if a1 < a2 then (pX6_isWithin_b14) else (if a3 < a1 then (pX6_isWithin_b14) else (1))
set_option maxHeartbeats 4000000 in
set_option maxRecDepth 20000 in
theorem kX6_isWithin {l : Launch} {D : va_G} {Y : Nat → ClassId} {a1 a2 a3 : Int32} : CMi l yX6_isWithin cX6_isWithin 3 (some .boolean) 0 0 D Y [] [] [.int a1, .int a2, .int a3] (pX6_isWithin a1 a2 a3) := by
  obtain ⟨r, hX⟩ : ∃ r, pX6_isWithin a1 a2 a3 = r := ⟨_, rfl⟩
  rw [hX]
  refine cm_ofi (by decide) (Nat.le_of_ble_eq_true rfl) rfl (fun p e s m args below meth c A F hr hlk => ?_)
  show GW p l e { frames := 0, cells := 0, slots := 0, locals := 0 } s m args below meth c D A 3 0 0 (MQ below (QI D [] r A) args s 0 0 A) [] 0 [(0, .int a1), (1, .int a2), (2, .int a3)] []
  have b14 : pX6_isWithin_b14   = r → GW p l e { frames := 0, cells := 0, slots := 0, locals := 0 } s m args below meth c D A 3 0 0 (MQ below (QI D [] r A) args s 0 0 A) [] 14 [] [] := by
    intro   hX
    have hX : (0) = r := hX
    refine g_iconst (v := 0) F dX6_isWithin_14 (by decide) ?_
    exact g_retS F hr rfl hlk dX6_isWithin_15 hX
  have hX : (if a1 < a2 then (pX6_isWithin_b14) else (if a3 < a1 then (pX6_isWithin_b14) else (1))) = r := hX
  refine g_iload_n F dX6_isWithin_0 0 rfl rfl ?_
  refine g_iload_n F dX6_isWithin_1 1 rfl rfl ?_
  refine g_icmp_lt (tgt := 14) F dX6_isWithin_2 (by decide) (fun c1 => ?_) (fun c1 => ?_)
  · have hX := if_t hX c1
    refine g_sub [] rfl ?_
    exact b14  hX
  · have hX := if_f hX c1
    refine g_iload_n F dX6_isWithin_5 0 rfl rfl ?_
    refine g_iload_n F dX6_isWithin_6 2 rfl rfl ?_
    refine g_icmp_gt (tgt := 14) F dX6_isWithin_7 (by decide) (fun c2 => ?_) (fun c2 => ?_)
    · have hX := if_t hX c2
      refine g_sub [] rfl ?_
      exact b14  hX
    · have hX := if_f hX c2
      refine g_iconst (v := 1) F dX6_isWithin_10 (by decide) ?_
      refine g_goto (tgt := 15) F dX6_isWithin_11 (by decide) ?_
      exact g_retS F hr rfl hlk dX6_isWithin_15 hX
theorem b01_X6_isWithin {a1 a2 a3 : Int32} : pX6_isWithin a1 a2 a3 = 0 ∨ pX6_isWithin a1 a2 a3 = 1 := by
  simp only [pX6_isWithin_b14, pX6_isWithin]
  repeat' split
  all_goals first | exact Or.inl rfl | exact Or.inr rfl 
theorem callX6_isWithin {p : Program} {l : Launch} {e : Env} {R : Room} {s : State} {m : MethodId} {args : Array Value} {below : List Frame} {meth : Method} {c : Code} {D : va_G} {Y : Nat → ClassId} {A : Nat → Prop} {cc : ByteArray} {nL : Nat} {own : String} {Q : State → Prop} {pc : Nat} {lv : List (Nat × Value)} {rest : List Value} {cells slots : Nat} {ws : va_W} {a1 a2 a3 : Int32} (F : Fx p s m args c D Y A cc nL own) {index : Nat} (hml : Cond.methodLink own index yX6_isWithin ∈ TBL) (hR : 0 + 1 ≤ R.frames ∧ 8 + (3 + 11) + 0 ≤ R.locals) (hcat : (rest.map fun v => v.category).sum ≤ 8) (hd : decode cc pc = .ok (.invokestatic index, 3)) (kk : GW p l e R s m args below meth c D A nL cells slots Q ws (pc + 3) lv (.int (pX6_isWithin a1 a2 a3) :: rest)) (hcs : cells ≤ R.cells ∧ slots ≤ R.slots := by exact ⟨Nat.zero_le _, Nat.zero_le _⟩) : GW p l e R s m args below meth c D A nL cells slots Q ws pc lv (.int a3 :: .int a2 :: .int a1 :: rest) := g_callS (n := 3) F kX6_isWithin (by unfold mOK; decide +kernel) rfl cd_yX6_isWithin hml st_yX6_isWithin in_X6 hR hcs rfl hcat hd kk
theorem dX6_isBay_0 : decode cX6_isBay 0 = .ok (.iload_n 0, 1) := by decide +kernel
theorem dX6_isBay_1 : decode cX6_isBay 1 = .ok (.ifCond .lt 13, 3) := by decide +kernel
theorem dX6_isBay_4 : decode cX6_isBay 4 = .ok (.iload_n 0, 1) := by decide +kernel
theorem dX6_isBay_5 : decode cX6_isBay 5 = .ok (.bipush 6, 2) := by decide +kernel
theorem dX6_isBay_7 : decode cX6_isBay 7 = .ok (.if_icmp .ge 7, 3) := by decide +kernel
theorem dX6_isBay_10 : decode cX6_isBay 10 = .ok (.iconst 1, 1) := by decide +kernel
theorem dX6_isBay_11 : decode cX6_isBay 11 = .ok (.goto 4, 3) := by decide +kernel
theorem dX6_isBay_14 : decode cX6_isBay 14 = .ok (.iconst 0, 1) := by decide +kernel
theorem dX6_isBay_15 : decode cX6_isBay 15 = .ok (.ireturn, 1) := by decide +kernel
def pX6_isBay_b14   : Int32 := 0
def pX6_isBay (a1 : Int32) : Int32 := if a1 < 0 then (pX6_isBay_b14) else (if 6 ≤ a1 then (pX6_isBay_b14) else (1))
set_option maxHeartbeats 4000000 in
set_option maxRecDepth 20000 in
theorem kX6_isBay {l : Launch} {D : va_G} {Y : Nat → ClassId} {a1 : Int32} : CMi l yX6_isBay cX6_isBay 1 (some .boolean) 0 0 D Y [] [] [.int a1] (pX6_isBay a1) := by
  obtain ⟨r, hX⟩ : ∃ r, pX6_isBay a1 = r := ⟨_, rfl⟩
  rw [hX]
  refine cm_ofi (by decide) (Nat.le_of_ble_eq_true rfl) rfl (fun p e s m args below meth c A F hr hlk => ?_)
  show GW p l e { frames := 0, cells := 0, slots := 0, locals := 0 } s m args below meth c D A 1 0 0 (MQ below (QI D [] r A) args s 0 0 A) [] 0 [(0, .int a1)] []
  have b14 : pX6_isBay_b14   = r → GW p l e { frames := 0, cells := 0, slots := 0, locals := 0 } s m args below meth c D A 1 0 0 (MQ below (QI D [] r A) args s 0 0 A) [] 14 [] [] := by
    intro   hX
    have hX : (0) = r := hX
    refine g_iconst (v := 0) F dX6_isBay_14 (by decide) ?_
    exact g_retS F hr rfl hlk dX6_isBay_15 hX
  have hX : (if a1 < 0 then (pX6_isBay_b14) else (if 6 ≤ a1 then (pX6_isBay_b14) else (1))) = r := hX
  refine g_iload_n F dX6_isBay_0 0 rfl rfl ?_
  refine g_if_lt (tgt := 14) F dX6_isBay_1 (by decide) (fun c1 => ?_) (fun c1 => ?_)
  · have hX := if_t hX c1
    refine g_sub [] rfl ?_
    exact b14  hX
  · have hX := if_f hX c1
    refine g_iload_n F dX6_isBay_4 0 rfl rfl ?_
    refine g_bipush (v := 6) F dX6_isBay_5 (by decide) ?_
    refine g_icmp_ge (tgt := 14) F dX6_isBay_7 (by decide) (fun c2 => ?_) (fun c2 => ?_)
    · have hX := if_t hX c2
      refine g_sub [] rfl ?_
      exact b14  hX
    · have hX := if_f hX c2
      refine g_iconst (v := 1) F dX6_isBay_10 (by decide) ?_
      refine g_goto (tgt := 15) F dX6_isBay_11 (by decide) ?_
      exact g_retS F hr rfl hlk dX6_isBay_15 hX
theorem b01_X6_isBay {a1 : Int32} : pX6_isBay a1 = 0 ∨ pX6_isBay a1 = 1 := by
  simp only [pX6_isBay_b14, pX6_isBay]
  repeat' split
  all_goals first | exact Or.inl rfl | exact Or.inr rfl 
theorem callX6_isBay {p : Program} {l : Launch} {e : Env} {R : Room} {s : State} {m : MethodId} {args : Array Value} {below : List Frame} {meth : Method} {c : Code} {D : va_G} {Y : Nat → ClassId} {A : Nat → Prop} {cc : ByteArray} {nL : Nat} {own : String} {Q : State → Prop} {pc : Nat} {lv : List (Nat × Value)} {rest : List Value} {cells slots : Nat} {ws : va_W} {a1 : Int32} (F : Fx p s m args c D Y A cc nL own) {index : Nat} (hml : Cond.methodLink own index yX6_isBay ∈ TBL) (hR : 0 + 1 ≤ R.frames ∧ 8 + (1 + 11) + 0 ≤ R.locals) (hcat : (rest.map fun v => v.category).sum ≤ 8) (hd : decode cc pc = .ok (.invokestatic index, 3)) (kk : GW p l e R s m args below meth c D A nL cells slots Q ws (pc + 3) lv (.int (pX6_isBay a1) :: rest)) (hcs : cells ≤ R.cells ∧ slots ≤ R.slots := by exact ⟨Nat.zero_le _, Nat.zero_le _⟩) : GW p l e R s m args below meth c D A nL cells slots Q ws pc lv (.int a1 :: rest) := g_callS (n := 1) F kX6_isBay (by unfold mOK; decide +kernel) rfl cd_yX6_isBay hml st_yX6_isBay in_X6 hR hcs rfl hcat hd kk
theorem dX6_bayOf_0 : decode cX6_bayOf 0 = .ok (.iload_n 0, 1) := by decide +kernel
theorem dX6_bayOf_1 : decode cX6_bayOf 1 = .ok (.bipush 100, 2) := by decide +kernel
theorem dX6_bayOf_3 : decode cX6_bayOf 3 = .ok (.idiv, 1) := by decide +kernel
theorem dX6_bayOf_4 : decode cX6_bayOf 4 = .ok (.ireturn, 1) := by decide +kernel
def pX6_bayOf (a1 : Int32) : Int32 := a1 / 100
set_option maxHeartbeats 4000000 in
set_option maxRecDepth 20000 in
theorem kX6_bayOf {l : Launch} {D : va_G} {Y : Nat → ClassId} {a1 : Int32} : CMi l yX6_bayOf cX6_bayOf 1 (some .int) 0 0 D Y [] [] [.int a1] (pX6_bayOf a1) := by
  obtain ⟨r, hX⟩ : ∃ r, pX6_bayOf a1 = r := ⟨_, rfl⟩
  rw [hX]
  refine cm_ofi (by decide) (Nat.le_of_ble_eq_true rfl) rfl (fun p e s m args below meth c A F hr hlk => ?_)
  show GW p l e { frames := 0, cells := 0, slots := 0, locals := 0 } s m args below meth c D A 1 0 0 (MQ below (QI D [] r A) args s 0 0 A) [] 0 [(0, .int a1)] []
  have hX : (a1 / 100) = r := hX
  refine g_iload_n F dX6_bayOf_0 0 rfl rfl ?_
  refine g_bipush (v := 100) F dX6_bayOf_1 (by decide) ?_
  refine g_idiv F dX6_bayOf_3 (by decide) ?_
  exact g_retS F hr rfl hlk dX6_bayOf_4 hX
theorem callX6_bayOf {p : Program} {l : Launch} {e : Env} {R : Room} {s : State} {m : MethodId} {args : Array Value} {below : List Frame} {meth : Method} {c : Code} {D : va_G} {Y : Nat → ClassId} {A : Nat → Prop} {cc : ByteArray} {nL : Nat} {own : String} {Q : State → Prop} {pc : Nat} {lv : List (Nat × Value)} {rest : List Value} {cells slots : Nat} {ws : va_W} {a1 : Int32} (F : Fx p s m args c D Y A cc nL own) {index : Nat} (hml : Cond.methodLink own index yX6_bayOf ∈ TBL) (hR : 0 + 1 ≤ R.frames ∧ 8 + (1 + 11) + 0 ≤ R.locals) (hcat : (rest.map fun v => v.category).sum ≤ 8) (hd : decode cc pc = .ok (.invokestatic index, 3)) (kk : GW p l e R s m args below meth c D A nL cells slots Q ws (pc + 3) lv (.int (pX6_bayOf a1) :: rest)) (hcs : cells ≤ R.cells ∧ slots ≤ R.slots := by exact ⟨Nat.zero_le _, Nat.zero_le _⟩) : GW p l e R s m args below meth c D A nL cells slots Q ws pc lv (.int a1 :: rest) := g_callS (n := 1) F kX6_bayOf (by unfold mOK; decide +kernel) rfl cd_yX6_bayOf hml st_yX6_bayOf in_X6 hR hcs rfl hcat hd kk
theorem callNX6_bayOf {p : Program} {l : Launch} {e : Env} {R : Room} {s : State} {m : MethodId} {args : Array Value} {below : List Frame} {meth : Method} {c : Code} {D : va_G} {Y : Nat → ClassId} {A : Nat → Prop} {cc : ByteArray} {nL : Nat} {own : String} {Q : State → Prop} {pc : Nat} {lv : List (Nat × Value)} {rest : List Value} {cells slots : Nat} {ws : va_W} {a1 : Int32} (F : Fx p s m args c D Y A cc nL own) {host : String} {index : Nat} (hml : va_Nw (.methodLinkNest own index yX6_bayOf host) s) (hR : 0 + 1 ≤ R.frames ∧ 8 + (1 + 11) + 0 ≤ R.locals) (hcat : (rest.map fun v => v.category).sum ≤ 8) (hd : decode cc pc = .ok (.invokestatic index, 3)) (kk : GW p l e R s m args below meth c D A nL cells slots Q ws (pc + 3) lv (.int (pX6_bayOf a1) :: rest)) (hcs : cells ≤ R.cells ∧ slots ≤ R.slots := by exact ⟨Nat.zero_le _, Nat.zero_le _⟩) : GW p l e R s m args below meth c D A nL cells slots Q ws pc lv (.int a1 :: rest) := g_callSN (n := 1) F kX6_bayOf (by unfold mOK; decide +kernel) rfl cd_yX6_bayOf hml st_yX6_bayOf in_X6 hR hcs rfl hcat hd kk
theorem dX6_rowOf_0 : decode cX6_rowOf 0 = .ok (.iload_n 0, 1) := by decide +kernel
theorem dX6_rowOf_1 : decode cX6_rowOf 1 = .ok (.bipush 10, 2) := by decide +kernel
theorem dX6_rowOf_3 : decode cX6_rowOf 3 = .ok (.idiv, 1) := by decide +kernel
theorem dX6_rowOf_4 : decode cX6_rowOf 4 = .ok (.bipush 10, 2) := by decide +kernel
theorem dX6_rowOf_6 : decode cX6_rowOf 6 = .ok (.irem, 1) := by decide +kernel
theorem dX6_rowOf_7 : decode cX6_rowOf 7 = .ok (.ireturn, 1) := by decide +kernel
def pX6_rowOf (a1 : Int32) : Int32 := (a1 / 10) - (a1 / 10) / 10 * 10
set_option maxHeartbeats 4000000 in
set_option maxRecDepth 20000 in
theorem kX6_rowOf {l : Launch} {D : va_G} {Y : Nat → ClassId} {a1 : Int32} : CMi l yX6_rowOf cX6_rowOf 1 (some .int) 0 0 D Y [] [] [.int a1] (pX6_rowOf a1) := by
  obtain ⟨r, hX⟩ : ∃ r, pX6_rowOf a1 = r := ⟨_, rfl⟩
  rw [hX]
  refine cm_ofi (by decide) (Nat.le_of_ble_eq_true rfl) rfl (fun p e s m args below meth c A F hr hlk => ?_)
  show GW p l e { frames := 0, cells := 0, slots := 0, locals := 0 } s m args below meth c D A 1 0 0 (MQ below (QI D [] r A) args s 0 0 A) [] 0 [(0, .int a1)] []
  have hX : ((a1 / 10) - (a1 / 10) / 10 * 10) = r := hX
  refine g_iload_n F dX6_rowOf_0 0 rfl rfl ?_
  refine g_bipush (v := 10) F dX6_rowOf_1 (by decide) ?_
  refine g_idiv F dX6_rowOf_3 (by decide) ?_
  refine g_bipush (v := 10) F dX6_rowOf_4 (by decide) ?_
  refine g_irem F dX6_rowOf_6 (by decide) ?_
  exact g_retS F hr rfl hlk dX6_rowOf_7 hX
theorem callX6_rowOf {p : Program} {l : Launch} {e : Env} {R : Room} {s : State} {m : MethodId} {args : Array Value} {below : List Frame} {meth : Method} {c : Code} {D : va_G} {Y : Nat → ClassId} {A : Nat → Prop} {cc : ByteArray} {nL : Nat} {own : String} {Q : State → Prop} {pc : Nat} {lv : List (Nat × Value)} {rest : List Value} {cells slots : Nat} {ws : va_W} {a1 : Int32} (F : Fx p s m args c D Y A cc nL own) {index : Nat} (hml : Cond.methodLink own index yX6_rowOf ∈ TBL) (hR : 0 + 1 ≤ R.frames ∧ 8 + (1 + 11) + 0 ≤ R.locals) (hcat : (rest.map fun v => v.category).sum ≤ 8) (hd : decode cc pc = .ok (.invokestatic index, 3)) (kk : GW p l e R s m args below meth c D A nL cells slots Q ws (pc + 3) lv (.int (pX6_rowOf a1) :: rest)) (hcs : cells ≤ R.cells ∧ slots ≤ R.slots := by exact ⟨Nat.zero_le _, Nat.zero_le _⟩) : GW p l e R s m args below meth c D A nL cells slots Q ws pc lv (.int a1 :: rest) := g_callS (n := 1) F kX6_rowOf (by unfold mOK; decide +kernel) rfl cd_yX6_rowOf hml st_yX6_rowOf in_X6 hR hcs rfl hcat hd kk
theorem callNX6_rowOf {p : Program} {l : Launch} {e : Env} {R : Room} {s : State} {m : MethodId} {args : Array Value} {below : List Frame} {meth : Method} {c : Code} {D : va_G} {Y : Nat → ClassId} {A : Nat → Prop} {cc : ByteArray} {nL : Nat} {own : String} {Q : State → Prop} {pc : Nat} {lv : List (Nat × Value)} {rest : List Value} {cells slots : Nat} {ws : va_W} {a1 : Int32} (F : Fx p s m args c D Y A cc nL own) {host : String} {index : Nat} (hml : va_Nw (.methodLinkNest own index yX6_rowOf host) s) (hR : 0 + 1 ≤ R.frames ∧ 8 + (1 + 11) + 0 ≤ R.locals) (hcat : (rest.map fun v => v.category).sum ≤ 8) (hd : decode cc pc = .ok (.invokestatic index, 3)) (kk : GW p l e R s m args below meth c D A nL cells slots Q ws (pc + 3) lv (.int (pX6_rowOf a1) :: rest)) (hcs : cells ≤ R.cells ∧ slots ≤ R.slots := by exact ⟨Nat.zero_le _, Nat.zero_le _⟩) : GW p l e R s m args below meth c D A nL cells slots Q ws pc lv (.int a1 :: rest) := g_callSN (n := 1) F kX6_rowOf (by unfold mOK; decide +kernel) rfl cd_yX6_rowOf hml st_yX6_rowOf in_X6 hR hcs rfl hcat hd kk
theorem dX6_tierOf_0 : decode cX6_tierOf 0 = .ok (.iload_n 0, 1) := by decide +kernel
theorem dX6_tierOf_1 : decode cX6_tierOf 1 = .ok (.bipush 10, 2) := by decide +kernel
theorem dX6_tierOf_3 : decode cX6_tierOf 3 = .ok (.irem, 1) := by decide +kernel
theorem dX6_tierOf_4 : decode cX6_tierOf 4 = .ok (.ireturn, 1) := by decide +kernel
def pX6_tierOf (a1 : Int32) : Int32 := a1 - a1 / 10 * 10
set_option maxHeartbeats 4000000 in
set_option maxRecDepth 20000 in
theorem kX6_tierOf {l : Launch} {D : va_G} {Y : Nat → ClassId} {a1 : Int32} : CMi l yX6_tierOf cX6_tierOf 1 (some .int) 0 0 D Y [] [] [.int a1] (pX6_tierOf a1) := by
  obtain ⟨r, hX⟩ : ∃ r, pX6_tierOf a1 = r := ⟨_, rfl⟩
  rw [hX]
  refine cm_ofi (by decide) (Nat.le_of_ble_eq_true rfl) rfl (fun p e s m args below meth c A F hr hlk => ?_)
  show GW p l e { frames := 0, cells := 0, slots := 0, locals := 0 } s m args below meth c D A 1 0 0 (MQ below (QI D [] r A) args s 0 0 A) [] 0 [(0, .int a1)] []
  have hX : (a1 - a1 / 10 * 10) = r := hX
  refine g_iload_n F dX6_tierOf_0 0 rfl rfl ?_
  refine g_bipush (v := 10) F dX6_tierOf_1 (by decide) ?_
  refine g_irem F dX6_tierOf_3 (by decide) ?_
  exact g_retS F hr rfl hlk dX6_tierOf_4 hX
theorem callX6_tierOf {p : Program} {l : Launch} {e : Env} {R : Room} {s : State} {m : MethodId} {args : Array Value} {below : List Frame} {meth : Method} {c : Code} {D : va_G} {Y : Nat → ClassId} {A : Nat → Prop} {cc : ByteArray} {nL : Nat} {own : String} {Q : State → Prop} {pc : Nat} {lv : List (Nat × Value)} {rest : List Value} {cells slots : Nat} {ws : va_W} {a1 : Int32} (F : Fx p s m args c D Y A cc nL own) {index : Nat} (hml : Cond.methodLink own index yX6_tierOf ∈ TBL) (hR : 0 + 1 ≤ R.frames ∧ 8 + (1 + 11) + 0 ≤ R.locals) (hcat : (rest.map fun v => v.category).sum ≤ 8) (hd : decode cc pc = .ok (.invokestatic index, 3)) (kk : GW p l e R s m args below meth c D A nL cells slots Q ws (pc + 3) lv (.int (pX6_tierOf a1) :: rest)) (hcs : cells ≤ R.cells ∧ slots ≤ R.slots := by exact ⟨Nat.zero_le _, Nat.zero_le _⟩) : GW p l e R s m args below meth c D A nL cells slots Q ws pc lv (.int a1 :: rest) := g_callS (n := 1) F kX6_tierOf (by unfold mOK; decide +kernel) rfl cd_yX6_tierOf hml st_yX6_tierOf in_X6 hR hcs rfl hcat hd kk
theorem dX6_isSlot_0 : decode cX6_isSlot 0 = .ok (.iload_n 0, 1) := by decide +kernel
theorem dX6_isSlot_1 : decode cX6_isSlot 1 = .ok (.ifCond .lt 32, 3) := by decide +kernel
theorem dX6_isSlot_4 : decode cX6_isSlot 4 = .ok (.iload_n 0, 1) := by decide +kernel
theorem dX6_isSlot_5 : decode cX6_isSlot 5 = .ok (.invokestatic 283, 3) := by decide +kernel
theorem dX6_isSlot_8 : decode cX6_isSlot 8 = .ok (.bipush 6, 2) := by decide +kernel
theorem dX6_isSlot_10 : decode cX6_isSlot 10 = .ok (.if_icmp .ge 23, 3) := by decide +kernel
theorem dX6_isSlot_13 : decode cX6_isSlot 13 = .ok (.iload_n 0, 1) := by decide +kernel
theorem dX6_isSlot_14 : decode cX6_isSlot 14 = .ok (.invokestatic 280, 3) := by decide +kernel
theorem dX6_isSlot_17 : decode cX6_isSlot 17 = .ok (.iconst 3, 1) := by decide +kernel
theorem dX6_isSlot_18 : decode cX6_isSlot 18 = .ok (.if_icmp .ge 15, 3) := by decide +kernel
theorem dX6_isSlot_21 : decode cX6_isSlot 21 = .ok (.iload_n 0, 1) := by decide +kernel
theorem dX6_isSlot_22 : decode cX6_isSlot 22 = .ok (.invokestatic 309, 3) := by decide +kernel
theorem dX6_isSlot_25 : decode cX6_isSlot 25 = .ok (.iconst 4, 1) := by decide +kernel
theorem dX6_isSlot_26 : decode cX6_isSlot 26 = .ok (.if_icmp .ge 7, 3) := by decide +kernel
theorem dX6_isSlot_29 : decode cX6_isSlot 29 = .ok (.iconst 1, 1) := by decide +kernel
theorem dX6_isSlot_30 : decode cX6_isSlot 30 = .ok (.goto 4, 3) := by decide +kernel
theorem dX6_isSlot_33 : decode cX6_isSlot 33 = .ok (.iconst 0, 1) := by decide +kernel
theorem dX6_isSlot_34 : decode cX6_isSlot 34 = .ok (.ireturn, 1) := by decide +kernel
def pX6_isSlot_b33   : Int32 := 0
def pX6_isSlot (a1 : Int32) : Int32 := if a1 < 0 then (pX6_isSlot_b33) else (if 6 ≤ (pX6_bayOf a1) then (pX6_isSlot_b33) else (if 3 ≤ (pX6_rowOf a1) then (pX6_isSlot_b33) else (if 4 ≤ (pX6_tierOf a1) then (pX6_isSlot_b33) else (1))))
set_option maxHeartbeats 4000000 in
set_option maxRecDepth 20000 in
theorem kX6_isSlot {l : Launch} {D : va_G} {Y : Nat → ClassId} {a1 : Int32} : CMi l yX6_isSlot cX6_isSlot 1 (some .boolean) 1 20 D Y [] [] [.int a1] (pX6_isSlot a1) := by
  obtain ⟨r, hX⟩ : ∃ r, pX6_isSlot a1 = r := ⟨_, rfl⟩
  rw [hX]
  refine cm_ofi (by decide) (Nat.le_of_ble_eq_true rfl) rfl (fun p e s m args below meth c A F hr hlk => ?_)
  show GW p l e { frames := 1, cells := 0, slots := 0, locals := 20 } s m args below meth c D A 1 0 0 (MQ below (QI D [] r A) args s 0 0 A) [] 0 [(0, .int a1)] []
  have b33 : pX6_isSlot_b33   = r → GW p l e { frames := 1, cells := 0, slots := 0, locals := 20 } s m args below meth c D A 1 0 0 (MQ below (QI D [] r A) args s 0 0 A) [] 33 [] [] := by
    intro   hX
    have hX : (0) = r := hX
    refine g_iconst (v := 0) F dX6_isSlot_33 (by decide) ?_
    exact g_retS F hr rfl hlk dX6_isSlot_34 hX
  have hX : (if a1 < 0 then (pX6_isSlot_b33) else (if 6 ≤ (pX6_bayOf a1) then (pX6_isSlot_b33) else (if 3 ≤ (pX6_rowOf a1) then (pX6_isSlot_b33) else (if 4 ≤ (pX6_tierOf a1) then (pX6_isSlot_b33) else (1))))) = r := hX
  refine g_iload_n F dX6_isSlot_0 0 rfl rfl ?_
  refine g_if_lt (tgt := 33) F dX6_isSlot_1 (by decide) (fun c1 => ?_) (fun c1 => ?_)
  · have hX := if_t hX c1
    refine g_sub [] rfl ?_
    exact b33  hX
  · have hX := if_f hX c1
    refine g_iload_n F dX6_isSlot_4 0 rfl rfl ?_
    refine callX6_bayOf F ml_X6_283 ⟨Nat.le_of_ble_eq_true rfl, Nat.le_of_ble_eq_true rfl⟩ (Nat.le_of_ble_eq_true rfl) dX6_isSlot_5 ?_
    refine g_bipush (v := 6) F dX6_isSlot_8 (by decide) ?_
    refine g_icmp_ge (tgt := 33) F dX6_isSlot_10 (by decide) (fun c2 => ?_) (fun c2 => ?_)
    · have hX := if_t hX c2
      refine g_sub [] rfl ?_
      exact b33  hX
    · have hX := if_f hX c2
      refine g_iload_n F dX6_isSlot_13 0 rfl rfl ?_
      refine callX6_rowOf F ml_X6_280 ⟨Nat.le_of_ble_eq_true rfl, Nat.le_of_ble_eq_true rfl⟩ (Nat.le_of_ble_eq_true rfl) dX6_isSlot_14 ?_
      refine g_iconst (v := 3) F dX6_isSlot_17 (by decide) ?_
      refine g_icmp_ge (tgt := 33) F dX6_isSlot_18 (by decide) (fun c3 => ?_) (fun c3 => ?_)
      · have hX := if_t hX c3
        refine g_sub [] rfl ?_
        exact b33  hX
      · have hX := if_f hX c3
        refine g_iload_n F dX6_isSlot_21 0 rfl rfl ?_
        refine callX6_tierOf F ml_X6_309 ⟨Nat.le_of_ble_eq_true rfl, Nat.le_of_ble_eq_true rfl⟩ (Nat.le_of_ble_eq_true rfl) dX6_isSlot_22 ?_
        refine g_iconst (v := 4) F dX6_isSlot_25 (by decide) ?_
        refine g_icmp_ge (tgt := 33) F dX6_isSlot_26 (by decide) (fun c4 => ?_) (fun c4 => ?_)
        · have hX := if_t hX c4
          refine g_sub [] rfl ?_
          exact b33  hX
        · have hX := if_f hX c4
          refine g_iconst (v := 1) F dX6_isSlot_29 (by decide) ?_
          refine g_goto (tgt := 34) F dX6_isSlot_30 (by decide) ?_
          exact g_retS F hr rfl hlk dX6_isSlot_34 hX
theorem b01_X6_isSlot {a1 : Int32} : pX6_isSlot a1 = 0 ∨ pX6_isSlot a1 = 1 := by
  simp only [pX6_isSlot_b33, pX6_isSlot]
  repeat' split
  all_goals first | exact Or.inl rfl | exact Or.inr rfl 
theorem callX6_isSlot {p : Program} {l : Launch} {e : Env} {R : Room} {s : State} {m : MethodId} {args : Array Value} {below : List Frame} {meth : Method} {c : Code} {D : va_G} {Y : Nat → ClassId} {A : Nat → Prop} {cc : ByteArray} {nL : Nat} {own : String} {Q : State → Prop} {pc : Nat} {lv : List (Nat × Value)} {rest : List Value} {cells slots : Nat} {ws : va_W} {a1 : Int32} (F : Fx p s m args c D Y A cc nL own) {index : Nat} (hml : Cond.methodLink own index yX6_isSlot ∈ TBL) (hR : 1 + 1 ≤ R.frames ∧ 8 + (1 + 11) + 20 ≤ R.locals) (hcat : (rest.map fun v => v.category).sum ≤ 8) (hd : decode cc pc = .ok (.invokestatic index, 3)) (kk : GW p l e R s m args below meth c D A nL cells slots Q ws (pc + 3) lv (.int (pX6_isSlot a1) :: rest)) (hcs : cells ≤ R.cells ∧ slots ≤ R.slots := by exact ⟨Nat.zero_le _, Nat.zero_le _⟩) : GW p l e R s m args below meth c D A nL cells slots Q ws pc lv (.int a1 :: rest) := g_callS (n := 1) F kX6_isSlot (by unfold mOK; decide +kernel) rfl cd_yX6_isSlot hml st_yX6_isSlot in_X6 hR hcs rfl hcat hd kk
theorem dX6_isStack_0 : decode cX6_isStack 0 = .ok (.iload_n 0, 1) := by decide +kernel
theorem dX6_isStack_1 : decode cX6_isStack 1 = .ok (.ifCond .lt 13, 3) := by decide +kernel
theorem dX6_isStack_4 : decode cX6_isStack 4 = .ok (.iload_n 0, 1) := by decide +kernel
theorem dX6_isStack_5 : decode cX6_isStack 5 = .ok (.bipush 10, 2) := by decide +kernel
theorem dX6_isStack_7 : decode cX6_isStack 7 = .ok (.if_icmp .ge 7, 3) := by decide +kernel
theorem dX6_isStack_10 : decode cX6_isStack 10 = .ok (.iconst 1, 1) := by decide +kernel
theorem dX6_isStack_11 : decode cX6_isStack 11 = .ok (.goto 4, 3) := by decide +kernel
theorem dX6_isStack_14 : decode cX6_isStack 14 = .ok (.iconst 0, 1) := by decide +kernel
theorem dX6_isStack_15 : decode cX6_isStack 15 = .ok (.ireturn, 1) := by decide +kernel
def pX6_isStack_b14   : Int32 := 0
def pX6_isStack (a1 : Int32) : Int32 := if a1 < 0 then (pX6_isStack_b14) else (if 10 ≤ a1 then (pX6_isStack_b14) else (1))
set_option maxHeartbeats 4000000 in
set_option maxRecDepth 20000 in
theorem kX6_isStack {l : Launch} {D : va_G} {Y : Nat → ClassId} {a1 : Int32} : CMi l yX6_isStack cX6_isStack 1 (some .boolean) 0 0 D Y [] [] [.int a1] (pX6_isStack a1) := by
  obtain ⟨r, hX⟩ : ∃ r, pX6_isStack a1 = r := ⟨_, rfl⟩
  rw [hX]
  refine cm_ofi (by decide) (Nat.le_of_ble_eq_true rfl) rfl (fun p e s m args below meth c A F hr hlk => ?_)
  show GW p l e { frames := 0, cells := 0, slots := 0, locals := 0 } s m args below meth c D A 1 0 0 (MQ below (QI D [] r A) args s 0 0 A) [] 0 [(0, .int a1)] []
  have b14 : pX6_isStack_b14   = r → GW p l e { frames := 0, cells := 0, slots := 0, locals := 0 } s m args below meth c D A 1 0 0 (MQ below (QI D [] r A) args s 0 0 A) [] 14 [] [] := by
    intro   hX
    have hX : (0) = r := hX
    refine g_iconst (v := 0) F dX6_isStack_14 (by decide) ?_
    exact g_retS F hr rfl hlk dX6_isStack_15 hX
  have hX : (if a1 < 0 then (pX6_isStack_b14) else (if 10 ≤ a1 then (pX6_isStack_b14) else (1))) = r := hX
  refine g_iload_n F dX6_isStack_0 0 rfl rfl ?_
  refine g_if_lt (tgt := 14) F dX6_isStack_1 (by decide) (fun c1 => ?_) (fun c1 => ?_)
  · have hX := if_t hX c1
    refine g_sub [] rfl ?_
    exact b14  hX
  · have hX := if_f hX c1
    refine g_iload_n F dX6_isStack_4 0 rfl rfl ?_
    refine g_bipush (v := 10) F dX6_isStack_5 (by decide) ?_
    refine g_icmp_ge (tgt := 14) F dX6_isStack_7 (by decide) (fun c2 => ?_) (fun c2 => ?_)
    · have hX := if_t hX c2
      refine g_sub [] rfl ?_
      exact b14  hX
    · have hX := if_f hX c2
      refine g_iconst (v := 1) F dX6_isStack_10 (by decide) ?_
      refine g_goto (tgt := 15) F dX6_isStack_11 (by decide) ?_
      exact g_retS F hr rfl hlk dX6_isStack_15 hX
theorem b01_X6_isStack {a1 : Int32} : pX6_isStack a1 = 0 ∨ pX6_isStack a1 = 1 := by
  simp only [pX6_isStack_b14, pX6_isStack]
  repeat' split
  all_goals first | exact Or.inl rfl | exact Or.inr rfl 
theorem callX6_isStack {p : Program} {l : Launch} {e : Env} {R : Room} {s : State} {m : MethodId} {args : Array Value} {below : List Frame} {meth : Method} {c : Code} {D : va_G} {Y : Nat → ClassId} {A : Nat → Prop} {cc : ByteArray} {nL : Nat} {own : String} {Q : State → Prop} {pc : Nat} {lv : List (Nat × Value)} {rest : List Value} {cells slots : Nat} {ws : va_W} {a1 : Int32} (F : Fx p s m args c D Y A cc nL own) {index : Nat} (hml : Cond.methodLink own index yX6_isStack ∈ TBL) (hR : 0 + 1 ≤ R.frames ∧ 8 + (1 + 11) + 0 ≤ R.locals) (hcat : (rest.map fun v => v.category).sum ≤ 8) (hd : decode cc pc = .ok (.invokestatic index, 3)) (kk : GW p l e R s m args below meth c D A nL cells slots Q ws (pc + 3) lv (.int (pX6_isStack a1) :: rest)) (hcs : cells ≤ R.cells ∧ slots ≤ R.slots := by exact ⟨Nat.zero_le _, Nat.zero_le _⟩) : GW p l e R s m args below meth c D A nL cells slots Q ws pc lv (.int a1 :: rest) := g_callS (n := 1) F kX6_isStack (by unfold mOK; decide +kernel) rfl cd_yX6_isStack hml st_yX6_isStack in_X6 hR hcs rfl hcat hd kk
theorem dX6_isCrane_0 : decode cX6_isCrane 0 = .ok (.iload_n 0, 1) := by decide +kernel
theorem dX6_isCrane_1 : decode cX6_isCrane 1 = .ok (.ifCond .lt 12, 3) := by decide +kernel
theorem dX6_isCrane_4 : decode cX6_isCrane 4 = .ok (.iload_n 0, 1) := by decide +kernel
theorem dX6_isCrane_5 : decode cX6_isCrane 5 = .ok (.iconst 2, 1) := by decide +kernel
theorem dX6_isCrane_6 : decode cX6_isCrane 6 = .ok (.if_icmp .ge 7, 3) := by decide +kernel
theorem dX6_isCrane_9 : decode cX6_isCrane 9 = .ok (.iconst 1, 1) := by decide +kernel
theorem dX6_isCrane_10 : decode cX6_isCrane 10 = .ok (.goto 4, 3) := by decide +kernel
theorem dX6_isCrane_13 : decode cX6_isCrane 13 = .ok (.iconst 0, 1) := by decide +kernel
theorem dX6_isCrane_14 : decode cX6_isCrane 14 = .ok (.ireturn, 1) := by decide +kernel
def pX6_isCrane_b13   : Int32 := 0
def pX6_isCrane (a1 : Int32) : Int32 := if a1 < 0 then (pX6_isCrane_b13) else (if 2 ≤ a1 then (pX6_isCrane_b13) else (1))
set_option maxHeartbeats 4000000 in
set_option maxRecDepth 20000 in
theorem kX6_isCrane {l : Launch} {D : va_G} {Y : Nat → ClassId} {a1 : Int32} : CMi l yX6_isCrane cX6_isCrane 1 (some .boolean) 0 0 D Y [] [] [.int a1] (pX6_isCrane a1) := by
  obtain ⟨r, hX⟩ : ∃ r, pX6_isCrane a1 = r := ⟨_, rfl⟩
  rw [hX]
  refine cm_ofi (by decide) (Nat.le_of_ble_eq_true rfl) rfl (fun p e s m args below meth c A F hr hlk => ?_)
  show GW p l e { frames := 0, cells := 0, slots := 0, locals := 0 } s m args below meth c D A 1 0 0 (MQ below (QI D [] r A) args s 0 0 A) [] 0 [(0, .int a1)] []
  have b13 : pX6_isCrane_b13   = r → GW p l e { frames := 0, cells := 0, slots := 0, locals := 0 } s m args below meth c D A 1 0 0 (MQ below (QI D [] r A) args s 0 0 A) [] 13 [] [] := by
    intro   hX
    have hX : (0) = r := hX
    refine g_iconst (v := 0) F dX6_isCrane_13 (by decide) ?_
    exact g_retS F hr rfl hlk dX6_isCrane_14 hX
  have hX : (if a1 < 0 then (pX6_isCrane_b13) else (if 2 ≤ a1 then (pX6_isCrane_b13) else (1))) = r := hX
  refine g_iload_n F dX6_isCrane_0 0 rfl rfl ?_
  refine g_if_lt (tgt := 13) F dX6_isCrane_1 (by decide) (fun c1 => ?_) (fun c1 => ?_)
  · have hX := if_t hX c1
    refine g_sub [] rfl ?_
    exact b13  hX
  · have hX := if_f hX c1
    refine g_iload_n F dX6_isCrane_4 0 rfl rfl ?_
    refine g_iconst (v := 2) F dX6_isCrane_5 (by decide) ?_
    refine g_icmp_ge (tgt := 13) F dX6_isCrane_6 (by decide) (fun c2 => ?_) (fun c2 => ?_)
    · have hX := if_t hX c2
      refine g_sub [] rfl ?_
      exact b13  hX
    · have hX := if_f hX c2
      refine g_iconst (v := 1) F dX6_isCrane_9 (by decide) ?_
      refine g_goto (tgt := 14) F dX6_isCrane_10 (by decide) ?_
      exact g_retS F hr rfl hlk dX6_isCrane_14 hX
theorem b01_X6_isCrane {a1 : Int32} : pX6_isCrane a1 = 0 ∨ pX6_isCrane a1 = 1 := by
  simp only [pX6_isCrane_b13, pX6_isCrane]
  repeat' split
  all_goals first | exact Or.inl rfl | exact Or.inr rfl 
theorem callX6_isCrane {p : Program} {l : Launch} {e : Env} {R : Room} {s : State} {m : MethodId} {args : Array Value} {below : List Frame} {meth : Method} {c : Code} {D : va_G} {Y : Nat → ClassId} {A : Nat → Prop} {cc : ByteArray} {nL : Nat} {own : String} {Q : State → Prop} {pc : Nat} {lv : List (Nat × Value)} {rest : List Value} {cells slots : Nat} {ws : va_W} {a1 : Int32} (F : Fx p s m args c D Y A cc nL own) {index : Nat} (hml : Cond.methodLink own index yX6_isCrane ∈ TBL) (hR : 0 + 1 ≤ R.frames ∧ 8 + (1 + 11) + 0 ≤ R.locals) (hcat : (rest.map fun v => v.category).sum ≤ 8) (hd : decode cc pc = .ok (.invokestatic index, 3)) (kk : GW p l e R s m args below meth c D A nL cells slots Q ws (pc + 3) lv (.int (pX6_isCrane a1) :: rest)) (hcs : cells ≤ R.cells ∧ slots ≤ R.slots := by exact ⟨Nat.zero_le _, Nat.zero_le _⟩) : GW p l e R s m args below meth c D A nL cells slots Q ws pc lv (.int a1 :: rest) := g_callS (n := 1) F kX6_isCrane (by unfold mOK; decide +kernel) rfl cd_yX6_isCrane hml st_yX6_isCrane in_X6 hR hcs rfl hcat hd kk
theorem dX6_isUnderHatch_0 : decode cX6_isUnderHatch 0 = .ok (.iload_n 0, 1) := by decide +kernel
theorem dX6_isUnderHatch_1 : decode cX6_isUnderHatch 1 = .ok (.invokestatic 309, 3) := by decide +kernel
theorem dX6_isUnderHatch_4 : decode cX6_isUnderHatch 4 = .ok (.iconst 2, 1) := by decide +kernel
theorem dX6_isUnderHatch_5 : decode cX6_isUnderHatch 5 = .ok (.if_icmp .ge 7, 3) := by decide +kernel
theorem dX6_isUnderHatch_8 : decode cX6_isUnderHatch 8 = .ok (.iconst 1, 1) := by decide +kernel
theorem dX6_isUnderHatch_9 : decode cX6_isUnderHatch 9 = .ok (.goto 4, 3) := by decide +kernel
theorem dX6_isUnderHatch_12 : decode cX6_isUnderHatch 12 = .ok (.iconst 0, 1) := by decide +kernel
theorem dX6_isUnderHatch_13 : decode cX6_isUnderHatch 13 = .ok (.ireturn, 1) := by decide +kernel
def pX6_isUnderHatch (a1 : Int32) : Int32 := if 2 ≤ (pX6_tierOf a1) then (0) else (1)
set_option maxHeartbeats 4000000 in
set_option maxRecDepth 20000 in
theorem kX6_isUnderHatch {l : Launch} {D : va_G} {Y : Nat → ClassId} {a1 : Int32} : CMi l yX6_isUnderHatch cX6_isUnderHatch 1 (some .boolean) 1 20 D Y [] [] [.int a1] (pX6_isUnderHatch a1) := by
  obtain ⟨r, hX⟩ : ∃ r, pX6_isUnderHatch a1 = r := ⟨_, rfl⟩
  rw [hX]
  refine cm_ofi (by decide) (Nat.le_of_ble_eq_true rfl) rfl (fun p e s m args below meth c A F hr hlk => ?_)
  show GW p l e { frames := 1, cells := 0, slots := 0, locals := 20 } s m args below meth c D A 1 0 0 (MQ below (QI D [] r A) args s 0 0 A) [] 0 [(0, .int a1)] []
  have hX : (if 2 ≤ (pX6_tierOf a1) then (0) else (1)) = r := hX
  refine g_iload_n F dX6_isUnderHatch_0 0 rfl rfl ?_
  refine callX6_tierOf F ml_X6_309 ⟨Nat.le_of_ble_eq_true rfl, Nat.le_of_ble_eq_true rfl⟩ (Nat.le_of_ble_eq_true rfl) dX6_isUnderHatch_1 ?_
  refine g_iconst (v := 2) F dX6_isUnderHatch_4 (by decide) ?_
  refine g_icmp_ge (tgt := 12) F dX6_isUnderHatch_5 (by decide) (fun c1 => ?_) (fun c1 => ?_)
  · have hX := if_t hX c1
    refine g_iconst (v := 0) F dX6_isUnderHatch_12 (by decide) ?_
    exact g_retS F hr rfl hlk dX6_isUnderHatch_13 hX
  · have hX := if_f hX c1
    refine g_iconst (v := 1) F dX6_isUnderHatch_8 (by decide) ?_
    refine g_goto (tgt := 13) F dX6_isUnderHatch_9 (by decide) ?_
    exact g_retS F hr rfl hlk dX6_isUnderHatch_13 hX
theorem b01_X6_isUnderHatch {a1 : Int32} : pX6_isUnderHatch a1 = 0 ∨ pX6_isUnderHatch a1 = 1 := by
  simp only [pX6_isUnderHatch]
  repeat' split
  all_goals first | exact Or.inl rfl | exact Or.inr rfl 
theorem callX6_isUnderHatch {p : Program} {l : Launch} {e : Env} {R : Room} {s : State} {m : MethodId} {args : Array Value} {below : List Frame} {meth : Method} {c : Code} {D : va_G} {Y : Nat → ClassId} {A : Nat → Prop} {cc : ByteArray} {nL : Nat} {own : String} {Q : State → Prop} {pc : Nat} {lv : List (Nat × Value)} {rest : List Value} {cells slots : Nat} {ws : va_W} {a1 : Int32} (F : Fx p s m args c D Y A cc nL own) {index : Nat} (hml : Cond.methodLink own index yX6_isUnderHatch ∈ TBL) (hR : 1 + 1 ≤ R.frames ∧ 8 + (1 + 11) + 20 ≤ R.locals) (hcat : (rest.map fun v => v.category).sum ≤ 8) (hd : decode cc pc = .ok (.invokestatic index, 3)) (kk : GW p l e R s m args below meth c D A nL cells slots Q ws (pc + 3) lv (.int (pX6_isUnderHatch a1) :: rest)) (hcs : cells ≤ R.cells ∧ slots ≤ R.slots := by exact ⟨Nat.zero_le _, Nat.zero_le _⟩) : GW p l e R s m args below meth c D A nL cells slots Q ws pc lv (.int a1 :: rest) := g_callS (n := 1) F kX6_isUnderHatch (by unfold mOK; decide +kernel) rfl cd_yX6_isUnderHatch hml st_yX6_isUnderHatch in_X6 hR hcs rfl hcat hd kk
theorem dX6_restsOnBox_0 : decode cX6_restsOnBox 0 = .ok (.iload_n 0, 1) := by decide +kernel
theorem dX6_restsOnBox_1 : decode cX6_restsOnBox 1 = .ok (.invokestatic 309, 3) := by decide +kernel
theorem dX6_restsOnBox_4 : decode cX6_restsOnBox 4 = .ok (.iconst 2, 1) := by decide +kernel
theorem dX6_restsOnBox_5 : decode cX6_restsOnBox 5 = .ok (.irem, 1) := by decide +kernel
theorem dX6_restsOnBox_6 : decode cX6_restsOnBox 6 = .ok (.iconst 1, 1) := by decide +kernel
theorem dX6_restsOnBox_7 : decode cX6_restsOnBox 7 = .ok (.if_icmp .ne 7, 3) := by decide +kernel
theorem dX6_restsOnBox_10 : decode cX6_restsOnBox 10 = .ok (.iconst 1, 1) := by decide +kernel
theorem dX6_restsOnBox_11 : decode cX6_restsOnBox 11 = .ok (.goto 4, 3) := by decide +kernel
theorem dX6_restsOnBox_14 : decode cX6_restsOnBox 14 = .ok (.iconst 0, 1) := by decide +kernel
theorem dX6_restsOnBox_15 : decode cX6_restsOnBox 15 = .ok (.ireturn, 1) := by decide +kernel
def pX6_restsOnBox (a1 : Int32) : Int32 := if ((pX6_tierOf a1) - (pX6_tierOf a1) / 2 * 2) = 1 then (1) else (0)
set_option maxHeartbeats 4000000 in
set_option maxRecDepth 20000 in
theorem kX6_restsOnBox {l : Launch} {D : va_G} {Y : Nat → ClassId} {a1 : Int32} : CMi l yX6_restsOnBox cX6_restsOnBox 1 (some .boolean) 1 20 D Y [] [] [.int a1] (pX6_restsOnBox a1) := by
  obtain ⟨r, hX⟩ : ∃ r, pX6_restsOnBox a1 = r := ⟨_, rfl⟩
  rw [hX]
  refine cm_ofi (by decide) (Nat.le_of_ble_eq_true rfl) rfl (fun p e s m args below meth c A F hr hlk => ?_)
  show GW p l e { frames := 1, cells := 0, slots := 0, locals := 20 } s m args below meth c D A 1 0 0 (MQ below (QI D [] r A) args s 0 0 A) [] 0 [(0, .int a1)] []
  have hX : (if ((pX6_tierOf a1) - (pX6_tierOf a1) / 2 * 2) = 1 then (1) else (0)) = r := hX
  refine g_iload_n F dX6_restsOnBox_0 0 rfl rfl ?_
  refine callX6_tierOf F ml_X6_309 ⟨Nat.le_of_ble_eq_true rfl, Nat.le_of_ble_eq_true rfl⟩ (Nat.le_of_ble_eq_true rfl) dX6_restsOnBox_1 ?_
  refine g_iconst (v := 2) F dX6_restsOnBox_4 (by decide) ?_
  refine g_irem F dX6_restsOnBox_5 (by decide) ?_
  refine g_iconst (v := 1) F dX6_restsOnBox_6 (by decide) ?_
  refine g_icmp_ne (tgt := 14) F dX6_restsOnBox_7 (by decide) (fun c1 => ?_) (fun c1 => ?_)
  · have hX := if_f hX c1
    refine g_iconst (v := 0) F dX6_restsOnBox_14 (by decide) ?_
    exact g_retS F hr rfl hlk dX6_restsOnBox_15 hX
  · have hX := if_t hX c1
    refine g_iconst (v := 1) F dX6_restsOnBox_10 (by decide) ?_
    refine g_goto (tgt := 15) F dX6_restsOnBox_11 (by decide) ?_
    exact g_retS F hr rfl hlk dX6_restsOnBox_15 hX
theorem b01_X6_restsOnBox {a1 : Int32} : pX6_restsOnBox a1 = 0 ∨ pX6_restsOnBox a1 = 1 := by
  simp only [pX6_restsOnBox]
  repeat' split
  all_goals first | exact Or.inl rfl | exact Or.inr rfl 
theorem callX6_restsOnBox {p : Program} {l : Launch} {e : Env} {R : Room} {s : State} {m : MethodId} {args : Array Value} {below : List Frame} {meth : Method} {c : Code} {D : va_G} {Y : Nat → ClassId} {A : Nat → Prop} {cc : ByteArray} {nL : Nat} {own : String} {Q : State → Prop} {pc : Nat} {lv : List (Nat × Value)} {rest : List Value} {cells slots : Nat} {ws : va_W} {a1 : Int32} (F : Fx p s m args c D Y A cc nL own) {index : Nat} (hml : Cond.methodLink own index yX6_restsOnBox ∈ TBL) (hR : 1 + 1 ≤ R.frames ∧ 8 + (1 + 11) + 20 ≤ R.locals) (hcat : (rest.map fun v => v.category).sum ≤ 8) (hd : decode cc pc = .ok (.invokestatic index, 3)) (kk : GW p l e R s m args below meth c D A nL cells slots Q ws (pc + 3) lv (.int (pX6_restsOnBox a1) :: rest)) (hcs : cells ≤ R.cells ∧ slots ≤ R.slots := by exact ⟨Nat.zero_le _, Nat.zero_le _⟩) : GW p l e R s m args below meth c D A nL cells slots Q ws pc lv (.int a1 :: rest) := g_callS (n := 1) F kX6_restsOnBox (by unfold mOK; decide +kernel) rfl cd_yX6_restsOnBox hml st_yX6_restsOnBox in_X6 hR hcs rfl hcat hd kk
theorem callNX6_restsOnBox {p : Program} {l : Launch} {e : Env} {R : Room} {s : State} {m : MethodId} {args : Array Value} {below : List Frame} {meth : Method} {c : Code} {D : va_G} {Y : Nat → ClassId} {A : Nat → Prop} {cc : ByteArray} {nL : Nat} {own : String} {Q : State → Prop} {pc : Nat} {lv : List (Nat × Value)} {rest : List Value} {cells slots : Nat} {ws : va_W} {a1 : Int32} (F : Fx p s m args c D Y A cc nL own) {host : String} {index : Nat} (hml : va_Nw (.methodLinkNest own index yX6_restsOnBox host) s) (hR : 1 + 1 ≤ R.frames ∧ 8 + (1 + 11) + 20 ≤ R.locals) (hcat : (rest.map fun v => v.category).sum ≤ 8) (hd : decode cc pc = .ok (.invokestatic index, 3)) (kk : GW p l e R s m args below meth c D A nL cells slots Q ws (pc + 3) lv (.int (pX6_restsOnBox a1) :: rest)) (hcs : cells ≤ R.cells ∧ slots ≤ R.slots := by exact ⟨Nat.zero_le _, Nat.zero_le _⟩) : GW p l e R s m args below meth c D A nL cells slots Q ws pc lv (.int a1 :: rest) := g_callSN (n := 1) F kX6_restsOnBox (by unfold mOK; decide +kernel) rfl cd_yX6_restsOnBox hml st_yX6_restsOnBox in_X6 hR hcs rfl hcat hd kk
theorem dX6_leverOf_0 : decode cX6_leverOf 0 = .ok (.iload_n 1, 1) := by decide +kernel
theorem dX6_leverOf_1 : decode cX6_leverOf 1 = .ok (.ifCond .ne 9, 3) := by decide +kernel
theorem dX6_leverOf_4 : decode cX6_leverOf 4 = .ok (.iconst 2, 1) := by decide +kernel
theorem dX6_leverOf_5 : decode cX6_leverOf 5 = .ok (.iload_n 0, 1) := by decide +kernel
theorem dX6_leverOf_6 : decode cX6_leverOf 6 = .ok (.imul, 1) := by decide +kernel
theorem dX6_leverOf_7 : decode cX6_leverOf 7 = .ok (.iconst 5, 1) := by decide +kernel
theorem dX6_leverOf_8 : decode cX6_leverOf 8 = .ok (.isub, 1) := by decide +kernel
theorem dX6_leverOf_9 : decode cX6_leverOf 9 = .ok (.ireturn, 1) := by decide +kernel
theorem dX6_leverOf_10 : decode cX6_leverOf 10 = .ok (.iload_n 0, 1) := by decide +kernel
theorem dX6_leverOf_11 : decode cX6_leverOf 11 = .ok (.iload_n 1, 1) := by decide +kernel
theorem dX6_leverOf_12 : decode cX6_leverOf 12 = .ok (.if_icmp .ge 8, 3) := by decide +kernel
theorem dX6_leverOf_15 : decode cX6_leverOf 15 = .ok (.bipush 6, 2) := by decide +kernel
theorem dX6_leverOf_17 : decode cX6_leverOf 17 = .ok (.goto 4, 3) := by decide +kernel
theorem dX6_leverOf_20 : decode cX6_leverOf 20 = .ok (.iconst 0, 1) := by decide +kernel
theorem dX6_leverOf_21 : decode cX6_leverOf 21 = .ok (.iload_n 1, 1) := by decide +kernel
theorem dX6_leverOf_22 : decode cX6_leverOf 22 = .ok (.isub, 1) := by decide +kernel
theorem dX6_leverOf_23 : decode cX6_leverOf 23 = .ok (.ireturn, 1) := by decide +kernel
def pX6_leverOf_b21  (x1 : Int32) (y0 : Int32) : Int32 := y0 - x1
def pX6_leverOf (a1 : Int32) (a2 : Int32) : Int32 := if a2 = 0 then ((2 * a1) - 5) else (if a2 ≤ a1 then (pX6_leverOf_b21 a2 0) else (pX6_leverOf_b21 a2 6))
set_option maxHeartbeats 4000000 in
set_option maxRecDepth 20000 in
theorem kX6_leverOf {l : Launch} {D : va_G} {Y : Nat → ClassId} {a1 a2 : Int32} : CMi l yX6_leverOf cX6_leverOf 2 (some .int) 0 0 D Y [] [] [.int a1, .int a2] (pX6_leverOf a1 a2) := by
  obtain ⟨r, hX⟩ : ∃ r, pX6_leverOf a1 a2 = r := ⟨_, rfl⟩
  rw [hX]
  refine cm_ofi (by decide) (Nat.le_of_ble_eq_true rfl) rfl (fun p e s m args below meth c A F hr hlk => ?_)
  show GW p l e { frames := 0, cells := 0, slots := 0, locals := 0 } s m args below meth c D A 2 0 0 (MQ below (QI D [] r A) args s 0 0 A) [] 0 [(0, .int a1), (1, .int a2)] []
  have b21 : ∀  (x1 : Int32) (y0 : Int32), pX6_leverOf_b21  x1 y0 = r → GW p l e { frames := 0, cells := 0, slots := 0, locals := 0 } s m args below meth c D A 2 0 0 (MQ below (QI D [] r A) args s 0 0 A) [] 21 [(1, .int x1)] [.int y0] := by
    intro  x1 y0 hX
    have hX : (y0 - x1) = r := hX
    refine g_iload_n F dX6_leverOf_21 0 rfl rfl ?_
    refine g_isub F dX6_leverOf_22 ?_
    exact g_retS F hr rfl hlk dX6_leverOf_23 hX
  have hX : (if a2 = 0 then ((2 * a1) - 5) else (if a2 ≤ a1 then (pX6_leverOf_b21 a2 0) else (pX6_leverOf_b21 a2 6))) = r := hX
  refine g_iload_n F dX6_leverOf_0 1 rfl rfl ?_
  refine g_if_ne (tgt := 10) F dX6_leverOf_1 (by decide) (fun c1 => ?_) (fun c1 => ?_)
  · have hX := if_f hX c1
    refine g_iload_n F dX6_leverOf_10 0 rfl rfl ?_
    refine g_iload_n F dX6_leverOf_11 1 rfl rfl ?_
    refine g_icmp_ge (tgt := 20) F dX6_leverOf_12 (by decide) (fun c2 => ?_) (fun c2 => ?_)
    · have hX := if_t hX c2
      refine g_iconst (v := 0) F dX6_leverOf_20 (by decide) ?_
      refine g_sub [1] rfl ?_
      exact b21 a2 0 hX
    · have hX := if_f hX c2
      refine g_bipush (v := 6) F dX6_leverOf_15 (by decide) ?_
      refine g_goto (tgt := 21) F dX6_leverOf_17 (by decide) ?_
      refine g_sub [1] rfl ?_
      exact b21 a2 6 hX
  · have hX := if_t hX c1
    refine g_iconst (v := 2) F dX6_leverOf_4 (by decide) ?_
    refine g_iload_n F dX6_leverOf_5 0 rfl rfl ?_
    refine g_imul F dX6_leverOf_6 ?_
    refine g_iconst (v := 5) F dX6_leverOf_7 (by decide) ?_
    refine g_isub F dX6_leverOf_8 ?_
    exact g_retS F hr rfl hlk dX6_leverOf_9 hX
theorem callX6_leverOf {p : Program} {l : Launch} {e : Env} {R : Room} {s : State} {m : MethodId} {args : Array Value} {below : List Frame} {meth : Method} {c : Code} {D : va_G} {Y : Nat → ClassId} {A : Nat → Prop} {cc : ByteArray} {nL : Nat} {own : String} {Q : State → Prop} {pc : Nat} {lv : List (Nat × Value)} {rest : List Value} {cells slots : Nat} {ws : va_W} {a1 a2 : Int32} (F : Fx p s m args c D Y A cc nL own) {index : Nat} (hml : Cond.methodLink own index yX6_leverOf ∈ TBL) (hR : 0 + 1 ≤ R.frames ∧ 8 + (2 + 11) + 0 ≤ R.locals) (hcat : (rest.map fun v => v.category).sum ≤ 8) (hd : decode cc pc = .ok (.invokestatic index, 3)) (kk : GW p l e R s m args below meth c D A nL cells slots Q ws (pc + 3) lv (.int (pX6_leverOf a1 a2) :: rest)) (hcs : cells ≤ R.cells ∧ slots ≤ R.slots := by exact ⟨Nat.zero_le _, Nat.zero_le _⟩) : GW p l e R s m args below meth c D A nL cells slots Q ws pc lv (.int a2 :: .int a1 :: rest) := g_callS (n := 2) F kX6_leverOf (by unfold mOK; decide +kernel) rfl cd_yX6_leverOf hml st_yX6_leverOf in_X6 hR hcs rfl hcat hd kk
theorem dX7_in_0 : decode cX7_in 0 = .ok (.iload_n 0, 1) := by decide +kernel
theorem dX7_in_1 : decode cX7_in 1 = .ok (.iload_n 1, 1) := by decide +kernel
theorem dX7_in_2 : decode cX7_in 2 = .ok (.if_icmp .lt 12, 3) := by decide +kernel
theorem dX7_in_5 : decode cX7_in 5 = .ok (.iload_n 0, 1) := by decide +kernel
theorem dX7_in_6 : decode cX7_in 6 = .ok (.iload_n 2, 1) := by decide +kernel
theorem dX7_in_7 : decode cX7_in 7 = .ok (.if_icmp .gt 7, 3) := by decide +kernel
theorem dX7_in_10 : decode cX7_in 10 = .ok (.iconst 1, 1) := by decide +kernel
theorem dX7_in_11 : decode cX7_in 11 = .ok (.goto 4, 3) := by decide +kernel
theorem dX7_in_14 : decode cX7_in 14 = .ok (.iconst 0, 1) := by decide +kernel
theorem dX7_in_15 : decode cX7_in 15 = .ok (.ireturn, 1) := by decide +kernel
def pX7_in_b14   : Int32 := 0
def pX7_in (a1 : Int32) (a2 : Int32) (a3 : Int32) : Int32 := if a1 < a2 then (pX7_in_b14) else (if a3 < a1 then (pX7_in_b14) else (1))
set_option maxHeartbeats 4000000 in
set_option maxRecDepth 20000 in
theorem kX7_in {l : Launch} {D : va_G} {Y : Nat → ClassId} {a1 a2 a3 : Int32} : CMi l yX7_in cX7_in 3 (some .boolean) 0 0 D Y [] [] [.int a1, .int a2, .int a3] (pX7_in a1 a2 a3) := by
  obtain ⟨r, hX⟩ : ∃ r, pX7_in a1 a2 a3 = r := ⟨_, rfl⟩
  rw [hX]
  refine cm_ofi (by decide) (Nat.le_of_ble_eq_true rfl) rfl (fun p e s m args below meth c A F hr hlk => ?_)
  show GW p l e { frames := 0, cells := 0, slots := 0, locals := 0 } s m args below meth c D A 3 0 0 (MQ below (QI D [] r A) args s 0 0 A) [] 0 [(0, .int a1), (1, .int a2), (2, .int a3)] []
  have b14 : pX7_in_b14   = r → GW p l e { frames := 0, cells := 0, slots := 0, locals := 0 } s m args below meth c D A 3 0 0 (MQ below (QI D [] r A) args s 0 0 A) [] 14 [] [] := by
    intro   hX
    have hX : (0) = r := hX
    refine g_iconst (v := 0) F dX7_in_14 (by decide) ?_
    exact g_retS F hr rfl hlk dX7_in_15 hX
  have hX : (if a1 < a2 then (pX7_in_b14) else (if a3 < a1 then (pX7_in_b14) else (1))) = r := hX
  refine g_iload_n F dX7_in_0 0 rfl rfl ?_
  refine g_iload_n F dX7_in_1 1 rfl rfl ?_
  refine g_icmp_lt (tgt := 14) F dX7_in_2 (by decide) (fun c1 => ?_) (fun c1 => ?_)
  · have hX := if_t hX c1
    refine g_sub [] rfl ?_
    exact b14  hX
  · have hX := if_f hX c1
    refine g_iload_n F dX7_in_5 0 rfl rfl ?_
    refine g_iload_n F dX7_in_6 2 rfl rfl ?_
    refine g_icmp_gt (tgt := 14) F dX7_in_7 (by decide) (fun c2 => ?_) (fun c2 => ?_)
    · have hX := if_t hX c2
      refine g_sub [] rfl ?_
      exact b14  hX
    · have hX := if_f hX c2
      refine g_iconst (v := 1) F dX7_in_10 (by decide) ?_
      refine g_goto (tgt := 15) F dX7_in_11 (by decide) ?_
      exact g_retS F hr rfl hlk dX7_in_15 hX
theorem b01_X7_in {a1 a2 a3 : Int32} : pX7_in a1 a2 a3 = 0 ∨ pX7_in a1 a2 a3 = 1 := by
  simp only [pX7_in_b14, pX7_in]
  repeat' split
  all_goals first | exact Or.inl rfl | exact Or.inr rfl 
theorem callX7_in {p : Program} {l : Launch} {e : Env} {R : Room} {s : State} {m : MethodId} {args : Array Value} {below : List Frame} {meth : Method} {c : Code} {D : va_G} {Y : Nat → ClassId} {A : Nat → Prop} {cc : ByteArray} {nL : Nat} {own : String} {Q : State → Prop} {pc : Nat} {lv : List (Nat × Value)} {rest : List Value} {cells slots : Nat} {ws : va_W} {a1 a2 a3 : Int32} (F : Fx p s m args c D Y A cc nL own) {index : Nat} (hml : Cond.methodLink own index yX7_in ∈ TBL) (hR : 0 + 1 ≤ R.frames ∧ 8 + (3 + 11) + 0 ≤ R.locals) (hcat : (rest.map fun v => v.category).sum ≤ 8) (hd : decode cc pc = .ok (.invokestatic index, 3)) (kk : GW p l e R s m args below meth c D A nL cells slots Q ws (pc + 3) lv (.int (pX7_in a1 a2 a3) :: rest)) (hcs : cells ≤ R.cells ∧ slots ≤ R.slots := by exact ⟨Nat.zero_le _, Nat.zero_le _⟩) : GW p l e R s m args below meth c D A nL cells slots Q ws pc lv (.int a3 :: .int a2 :: .int a1 :: rest) := g_callS (n := 3) F kX7_in (by unfold mOK; decide +kernel) rfl cd_yX7_in hml st_yX7_in in_X7 hR hcs rfl hcat hd kk
theorem dX7_isSlot_0 : decode cX7_isSlot 0 = .ok (.iload_n 0, 1) := by decide +kernel
theorem dX7_isSlot_1 : decode cX7_isSlot 1 = .ok (.iconst 0, 1) := by decide +kernel
theorem dX7_isSlot_2 : decode cX7_isSlot 2 = .ok (.sipush 523, 3) := by decide +kernel
theorem dX7_isSlot_5 : decode cX7_isSlot 5 = .ok (.invokestatic 90, 3) := by decide +kernel
theorem dX7_isSlot_8 : decode cX7_isSlot 8 = .ok (.ifCond .eq 26, 3) := by decide +kernel
theorem dX7_isSlot_11 : decode cX7_isSlot 11 = .ok (.iload_n 0, 1) := by decide +kernel
theorem dX7_isSlot_12 : decode cX7_isSlot 12 = .ok (.bipush 10, 2) := by decide +kernel
theorem dX7_isSlot_14 : decode cX7_isSlot 14 = .ok (.idiv, 1) := by decide +kernel
theorem dX7_isSlot_15 : decode cX7_isSlot 15 = .ok (.bipush 10, 2) := by decide +kernel
theorem dX7_isSlot_17 : decode cX7_isSlot 17 = .ok (.irem, 1) := by decide +kernel
theorem dX7_isSlot_18 : decode cX7_isSlot 18 = .ok (.iconst 3, 1) := by decide +kernel
theorem dX7_isSlot_19 : decode cX7_isSlot 19 = .ok (.if_icmp .ge 15, 3) := by decide +kernel
theorem dX7_isSlot_22 : decode cX7_isSlot 22 = .ok (.iload_n 0, 1) := by decide +kernel
theorem dX7_isSlot_23 : decode cX7_isSlot 23 = .ok (.bipush 10, 2) := by decide +kernel
theorem dX7_isSlot_25 : decode cX7_isSlot 25 = .ok (.irem, 1) := by decide +kernel
theorem dX7_isSlot_26 : decode cX7_isSlot 26 = .ok (.iconst 4, 1) := by decide +kernel
theorem dX7_isSlot_27 : decode cX7_isSlot 27 = .ok (.if_icmp .ge 7, 3) := by decide +kernel
theorem dX7_isSlot_30 : decode cX7_isSlot 30 = .ok (.iconst 1, 1) := by decide +kernel
theorem dX7_isSlot_31 : decode cX7_isSlot 31 = .ok (.goto 4, 3) := by decide +kernel
theorem dX7_isSlot_34 : decode cX7_isSlot 34 = .ok (.iconst 0, 1) := by decide +kernel
theorem dX7_isSlot_35 : decode cX7_isSlot 35 = .ok (.ireturn, 1) := by decide +kernel
def pX7_isSlot_b34   : Int32 := 0
def pX7_isSlot (a1 : Int32) : Int32 := if (pX7_in a1 0 523) = 0 then (pX7_isSlot_b34) else (if 3 ≤ ((a1 / 10) - (a1 / 10) / 10 * 10) then (pX7_isSlot_b34) else (if 4 ≤ (a1 - a1 / 10 * 10) then (pX7_isSlot_b34) else (1)))
set_option maxHeartbeats 4000000 in
set_option maxRecDepth 20000 in
theorem kX7_isSlot {l : Launch} {D : va_G} {Y : Nat → ClassId} {a1 : Int32} : CMi l yX7_isSlot cX7_isSlot 1 (some .boolean) 1 22 D Y [] [] [.int a1] (pX7_isSlot a1) := by
  obtain ⟨r, hX⟩ : ∃ r, pX7_isSlot a1 = r := ⟨_, rfl⟩
  rw [hX]
  refine cm_ofi (by decide) (Nat.le_of_ble_eq_true rfl) rfl (fun p e s m args below meth c A F hr hlk => ?_)
  show GW p l e { frames := 1, cells := 0, slots := 0, locals := 22 } s m args below meth c D A 1 0 0 (MQ below (QI D [] r A) args s 0 0 A) [] 0 [(0, .int a1)] []
  have b34 : pX7_isSlot_b34   = r → GW p l e { frames := 1, cells := 0, slots := 0, locals := 22 } s m args below meth c D A 1 0 0 (MQ below (QI D [] r A) args s 0 0 A) [] 34 [] [] := by
    intro   hX
    have hX : (0) = r := hX
    refine g_iconst (v := 0) F dX7_isSlot_34 (by decide) ?_
    exact g_retS F hr rfl hlk dX7_isSlot_35 hX
  have hX : (if (pX7_in a1 0 523) = 0 then (pX7_isSlot_b34) else (if 3 ≤ ((a1 / 10) - (a1 / 10) / 10 * 10) then (pX7_isSlot_b34) else (if 4 ≤ (a1 - a1 / 10 * 10) then (pX7_isSlot_b34) else (1)))) = r := hX
  refine g_iload_n F dX7_isSlot_0 0 rfl rfl ?_
  refine g_iconst (v := 0) F dX7_isSlot_1 (by decide) ?_
  refine g_sipush (v := 523) F dX7_isSlot_2 (by decide) ?_
  refine callX7_in F ml_X7_90 ⟨Nat.le_of_ble_eq_true rfl, Nat.le_of_ble_eq_true rfl⟩ (Nat.le_of_ble_eq_true rfl) dX7_isSlot_5 ?_
  refine g_if_eq (tgt := 34) F dX7_isSlot_8 (by decide) (fun c1 => ?_) (fun c1 => ?_)
  · have hX := if_t hX c1
    refine g_sub [] rfl ?_
    exact b34  hX
  · have hX := if_f hX c1
    refine g_iload_n F dX7_isSlot_11 0 rfl rfl ?_
    refine g_bipush (v := 10) F dX7_isSlot_12 (by decide) ?_
    refine g_idiv F dX7_isSlot_14 (by decide) ?_
    refine g_bipush (v := 10) F dX7_isSlot_15 (by decide) ?_
    refine g_irem F dX7_isSlot_17 (by decide) ?_
    refine g_iconst (v := 3) F dX7_isSlot_18 (by decide) ?_
    refine g_icmp_ge (tgt := 34) F dX7_isSlot_19 (by decide) (fun c2 => ?_) (fun c2 => ?_)
    · have hX := if_t hX c2
      refine g_sub [] rfl ?_
      exact b34  hX
    · have hX := if_f hX c2
      refine g_iload_n F dX7_isSlot_22 0 rfl rfl ?_
      refine g_bipush (v := 10) F dX7_isSlot_23 (by decide) ?_
      refine g_irem F dX7_isSlot_25 (by decide) ?_
      refine g_iconst (v := 4) F dX7_isSlot_26 (by decide) ?_
      refine g_icmp_ge (tgt := 34) F dX7_isSlot_27 (by decide) (fun c3 => ?_) (fun c3 => ?_)
      · have hX := if_t hX c3
        refine g_sub [] rfl ?_
        exact b34  hX
      · have hX := if_f hX c3
        refine g_iconst (v := 1) F dX7_isSlot_30 (by decide) ?_
        refine g_goto (tgt := 35) F dX7_isSlot_31 (by decide) ?_
        exact g_retS F hr rfl hlk dX7_isSlot_35 hX
theorem b01_X7_isSlot {a1 : Int32} : pX7_isSlot a1 = 0 ∨ pX7_isSlot a1 = 1 := by
  simp only [pX7_isSlot_b34, pX7_isSlot]
  repeat' split
  all_goals first | exact Or.inl rfl | exact Or.inr rfl | exact b01_X7_in
theorem callX7_isSlot {p : Program} {l : Launch} {e : Env} {R : Room} {s : State} {m : MethodId} {args : Array Value} {below : List Frame} {meth : Method} {c : Code} {D : va_G} {Y : Nat → ClassId} {A : Nat → Prop} {cc : ByteArray} {nL : Nat} {own : String} {Q : State → Prop} {pc : Nat} {lv : List (Nat × Value)} {rest : List Value} {cells slots : Nat} {ws : va_W} {a1 : Int32} (F : Fx p s m args c D Y A cc nL own) {index : Nat} (hml : Cond.methodLink own index yX7_isSlot ∈ TBL) (hR : 1 + 1 ≤ R.frames ∧ 8 + (1 + 11) + 22 ≤ R.locals) (hcat : (rest.map fun v => v.category).sum ≤ 8) (hd : decode cc pc = .ok (.invokestatic index, 3)) (kk : GW p l e R s m args below meth c D A nL cells slots Q ws (pc + 3) lv (.int (pX7_isSlot a1) :: rest)) (hcs : cells ≤ R.cells ∧ slots ≤ R.slots := by exact ⟨Nat.zero_le _, Nat.zero_le _⟩) : GW p l e R s m args below meth c D A nL cells slots Q ws pc lv (.int a1 :: rest) := g_callS (n := 1) F kX7_isSlot (by unfold mOK; decide +kernel) rfl cd_yX7_isSlot hml st_yX7_isSlot in_X7 hR hcs rfl hcat hd kk
theorem dX7_indexOf_0 : decode cX7_indexOf 0 = .ok (.bipush 12, 2) := by decide +kernel
theorem dX7_indexOf_2 : decode cX7_indexOf 2 = .ok (.iload_n 0, 1) := by decide +kernel
theorem dX7_indexOf_3 : decode cX7_indexOf 3 = .ok (.bipush 100, 2) := by decide +kernel
theorem dX7_indexOf_5 : decode cX7_indexOf 5 = .ok (.idiv, 1) := by decide +kernel
theorem dX7_indexOf_6 : decode cX7_indexOf 6 = .ok (.imul, 1) := by decide +kernel
theorem dX7_indexOf_7 : decode cX7_indexOf 7 = .ok (.iconst 4, 1) := by decide +kernel
theorem dX7_indexOf_8 : decode cX7_indexOf 8 = .ok (.iload_n 0, 1) := by decide +kernel
theorem dX7_indexOf_9 : decode cX7_indexOf 9 = .ok (.bipush 10, 2) := by decide +kernel
theorem dX7_indexOf_11 : decode cX7_indexOf 11 = .ok (.idiv, 1) := by decide +kernel
theorem dX7_indexOf_12 : decode cX7_indexOf 12 = .ok (.bipush 10, 2) := by decide +kernel
theorem dX7_indexOf_14 : decode cX7_indexOf 14 = .ok (.irem, 1) := by decide +kernel
theorem dX7_indexOf_15 : decode cX7_indexOf 15 = .ok (.imul, 1) := by decide +kernel
theorem dX7_indexOf_16 : decode cX7_indexOf 16 = .ok (.iadd, 1) := by decide +kernel
theorem dX7_indexOf_17 : decode cX7_indexOf 17 = .ok (.iload_n 0, 1) := by decide +kernel
theorem dX7_indexOf_18 : decode cX7_indexOf 18 = .ok (.bipush 10, 2) := by decide +kernel
theorem dX7_indexOf_20 : decode cX7_indexOf 20 = .ok (.irem, 1) := by decide +kernel
theorem dX7_indexOf_21 : decode cX7_indexOf 21 = .ok (.iadd, 1) := by decide +kernel
theorem dX7_indexOf_22 : decode cX7_indexOf 22 = .ok (.ireturn, 1) := by decide +kernel
def pX7_indexOf (a1 : Int32) : Int32 := ((12 * (a1 / 100)) + (4 * ((a1 / 10) - (a1 / 10) / 10 * 10))) + (a1 - a1 / 10 * 10)
set_option maxHeartbeats 4000000 in
set_option maxRecDepth 20000 in
theorem kX7_indexOf {l : Launch} {D : va_G} {Y : Nat → ClassId} {a1 : Int32} : CMi l yX7_indexOf cX7_indexOf 1 (some .int) 0 0 D Y [] [] [.int a1] (pX7_indexOf a1) := by
  obtain ⟨r, hX⟩ : ∃ r, pX7_indexOf a1 = r := ⟨_, rfl⟩
  rw [hX]
  refine cm_ofi (by decide) (Nat.le_of_ble_eq_true rfl) rfl (fun p e s m args below meth c A F hr hlk => ?_)
  show GW p l e { frames := 0, cells := 0, slots := 0, locals := 0 } s m args below meth c D A 1 0 0 (MQ below (QI D [] r A) args s 0 0 A) [] 0 [(0, .int a1)] []
  have hX : (((12 * (a1 / 100)) + (4 * ((a1 / 10) - (a1 / 10) / 10 * 10))) + (a1 - a1 / 10 * 10)) = r := hX
  refine g_bipush (v := 12) F dX7_indexOf_0 (by decide) ?_
  refine g_iload_n F dX7_indexOf_2 0 rfl rfl ?_
  refine g_bipush (v := 100) F dX7_indexOf_3 (by decide) ?_
  refine g_idiv F dX7_indexOf_5 (by decide) ?_
  refine g_imul F dX7_indexOf_6 ?_
  refine g_iconst (v := 4) F dX7_indexOf_7 (by decide) ?_
  refine g_iload_n F dX7_indexOf_8 0 rfl rfl ?_
  refine g_bipush (v := 10) F dX7_indexOf_9 (by decide) ?_
  refine g_idiv F dX7_indexOf_11 (by decide) ?_
  refine g_bipush (v := 10) F dX7_indexOf_12 (by decide) ?_
  refine g_irem F dX7_indexOf_14 (by decide) ?_
  refine g_imul F dX7_indexOf_15 ?_
  refine g_iadd F dX7_indexOf_16 ?_
  refine g_iload_n F dX7_indexOf_17 0 rfl rfl ?_
  refine g_bipush (v := 10) F dX7_indexOf_18 (by decide) ?_
  refine g_irem F dX7_indexOf_20 (by decide) ?_
  refine g_iadd F dX7_indexOf_21 ?_
  exact g_retS F hr rfl hlk dX7_indexOf_22 hX
theorem callX7_indexOf {p : Program} {l : Launch} {e : Env} {R : Room} {s : State} {m : MethodId} {args : Array Value} {below : List Frame} {meth : Method} {c : Code} {D : va_G} {Y : Nat → ClassId} {A : Nat → Prop} {cc : ByteArray} {nL : Nat} {own : String} {Q : State → Prop} {pc : Nat} {lv : List (Nat × Value)} {rest : List Value} {cells slots : Nat} {ws : va_W} {a1 : Int32} (F : Fx p s m args c D Y A cc nL own) {index : Nat} (hml : Cond.methodLink own index yX7_indexOf ∈ TBL) (hR : 0 + 1 ≤ R.frames ∧ 8 + (1 + 11) + 0 ≤ R.locals) (hcat : (rest.map fun v => v.category).sum ≤ 8) (hd : decode cc pc = .ok (.invokestatic index, 3)) (kk : GW p l e R s m args below meth c D A nL cells slots Q ws (pc + 3) lv (.int (pX7_indexOf a1) :: rest)) (hcs : cells ≤ R.cells ∧ slots ≤ R.slots := by exact ⟨Nat.zero_le _, Nat.zero_le _⟩) : GW p l e R s m args below meth c D A nL cells slots Q ws pc lv (.int a1 :: rest) := g_callS (n := 1) F kX7_indexOf (by unfold mOK; decide +kernel) rfl cd_yX7_indexOf hml st_yX7_indexOf in_X7 hR hcs rfl hcat hd kk
theorem dX7_isBay_0 : decode cX7_isBay 0 = .ok (.iload_n 0, 1) := by decide +kernel
theorem dX7_isBay_1 : decode cX7_isBay 1 = .ok (.iconst 0, 1) := by decide +kernel
theorem dX7_isBay_2 : decode cX7_isBay 2 = .ok (.iconst 5, 1) := by decide +kernel
theorem dX7_isBay_3 : decode cX7_isBay 3 = .ok (.invokestatic 90, 3) := by decide +kernel
theorem dX7_isBay_6 : decode cX7_isBay 6 = .ok (.ireturn, 1) := by decide +kernel
def pX7_isBay (a1 : Int32) : Int32 := pX7_in a1 0 5
set_option maxHeartbeats 4000000 in
set_option maxRecDepth 20000 in
theorem kX7_isBay {l : Launch} {D : va_G} {Y : Nat → ClassId} {a1 : Int32} : CMi l yX7_isBay cX7_isBay 1 (some .boolean) 1 22 D Y [] [] [.int a1] (pX7_isBay a1) := by
  obtain ⟨r, hX⟩ : ∃ r, pX7_isBay a1 = r := ⟨_, rfl⟩
  rw [hX]
  refine cm_ofi (by decide) (Nat.le_of_ble_eq_true rfl) rfl (fun p e s m args below meth c A F hr hlk => ?_)
  show GW p l e { frames := 1, cells := 0, slots := 0, locals := 22 } s m args below meth c D A 1 0 0 (MQ below (QI D [] r A) args s 0 0 A) [] 0 [(0, .int a1)] []
  have hX : (pX7_in a1 0 5) = r := hX
  refine g_iload_n F dX7_isBay_0 0 rfl rfl ?_
  refine g_iconst (v := 0) F dX7_isBay_1 (by decide) ?_
  refine g_iconst (v := 5) F dX7_isBay_2 (by decide) ?_
  refine callX7_in F ml_X7_90 ⟨Nat.le_of_ble_eq_true rfl, Nat.le_of_ble_eq_true rfl⟩ (Nat.le_of_ble_eq_true rfl) dX7_isBay_3 ?_
  exact g_retS F hr (nar01 b01_X7_in) hlk dX7_isBay_6 hX
theorem b01_X7_isBay {a1 : Int32} : pX7_isBay a1 = 0 ∨ pX7_isBay a1 = 1 := by
  simp only [pX7_isBay]
  repeat' split
  all_goals first | exact Or.inl rfl | exact Or.inr rfl | exact b01_X7_in
theorem callX7_isBay {p : Program} {l : Launch} {e : Env} {R : Room} {s : State} {m : MethodId} {args : Array Value} {below : List Frame} {meth : Method} {c : Code} {D : va_G} {Y : Nat → ClassId} {A : Nat → Prop} {cc : ByteArray} {nL : Nat} {own : String} {Q : State → Prop} {pc : Nat} {lv : List (Nat × Value)} {rest : List Value} {cells slots : Nat} {ws : va_W} {a1 : Int32} (F : Fx p s m args c D Y A cc nL own) {index : Nat} (hml : Cond.methodLink own index yX7_isBay ∈ TBL) (hR : 1 + 1 ≤ R.frames ∧ 8 + (1 + 11) + 22 ≤ R.locals) (hcat : (rest.map fun v => v.category).sum ≤ 8) (hd : decode cc pc = .ok (.invokestatic index, 3)) (kk : GW p l e R s m args below meth c D A nL cells slots Q ws (pc + 3) lv (.int (pX7_isBay a1) :: rest)) (hcs : cells ≤ R.cells ∧ slots ≤ R.slots := by exact ⟨Nat.zero_le _, Nat.zero_le _⟩) : GW p l e R s m args below meth c D A nL cells slots Q ws pc lv (.int a1 :: rest) := g_callS (n := 1) F kX7_isBay (by unfold mOK; decide +kernel) rfl cd_yX7_isBay hml st_yX7_isBay in_X7 hR hcs rfl hcat hd kk
theorem dX7_isStack_0 : decode cX7_isStack 0 = .ok (.iload_n 0, 1) := by decide +kernel
theorem dX7_isStack_1 : decode cX7_isStack 1 = .ok (.iconst 0, 1) := by decide +kernel
theorem dX7_isStack_2 : decode cX7_isStack 2 = .ok (.bipush 9, 2) := by decide +kernel
theorem dX7_isStack_4 : decode cX7_isStack 4 = .ok (.invokestatic 90, 3) := by decide +kernel
theorem dX7_isStack_7 : decode cX7_isStack 7 = .ok (.ireturn, 1) := by decide +kernel
def pX7_isStack (a1 : Int32) : Int32 := pX7_in a1 0 9
set_option maxHeartbeats 4000000 in
set_option maxRecDepth 20000 in
theorem kX7_isStack {l : Launch} {D : va_G} {Y : Nat → ClassId} {a1 : Int32} : CMi l yX7_isStack cX7_isStack 1 (some .boolean) 1 22 D Y [] [] [.int a1] (pX7_isStack a1) := by
  obtain ⟨r, hX⟩ : ∃ r, pX7_isStack a1 = r := ⟨_, rfl⟩
  rw [hX]
  refine cm_ofi (by decide) (Nat.le_of_ble_eq_true rfl) rfl (fun p e s m args below meth c A F hr hlk => ?_)
  show GW p l e { frames := 1, cells := 0, slots := 0, locals := 22 } s m args below meth c D A 1 0 0 (MQ below (QI D [] r A) args s 0 0 A) [] 0 [(0, .int a1)] []
  have hX : (pX7_in a1 0 9) = r := hX
  refine g_iload_n F dX7_isStack_0 0 rfl rfl ?_
  refine g_iconst (v := 0) F dX7_isStack_1 (by decide) ?_
  refine g_bipush (v := 9) F dX7_isStack_2 (by decide) ?_
  refine callX7_in F ml_X7_90 ⟨Nat.le_of_ble_eq_true rfl, Nat.le_of_ble_eq_true rfl⟩ (Nat.le_of_ble_eq_true rfl) dX7_isStack_4 ?_
  exact g_retS F hr (nar01 b01_X7_in) hlk dX7_isStack_7 hX
theorem b01_X7_isStack {a1 : Int32} : pX7_isStack a1 = 0 ∨ pX7_isStack a1 = 1 := by
  simp only [pX7_isStack]
  repeat' split
  all_goals first | exact Or.inl rfl | exact Or.inr rfl | exact b01_X7_in
theorem callX7_isStack {p : Program} {l : Launch} {e : Env} {R : Room} {s : State} {m : MethodId} {args : Array Value} {below : List Frame} {meth : Method} {c : Code} {D : va_G} {Y : Nat → ClassId} {A : Nat → Prop} {cc : ByteArray} {nL : Nat} {own : String} {Q : State → Prop} {pc : Nat} {lv : List (Nat × Value)} {rest : List Value} {cells slots : Nat} {ws : va_W} {a1 : Int32} (F : Fx p s m args c D Y A cc nL own) {index : Nat} (hml : Cond.methodLink own index yX7_isStack ∈ TBL) (hR : 1 + 1 ≤ R.frames ∧ 8 + (1 + 11) + 22 ≤ R.locals) (hcat : (rest.map fun v => v.category).sum ≤ 8) (hd : decode cc pc = .ok (.invokestatic index, 3)) (kk : GW p l e R s m args below meth c D A nL cells slots Q ws (pc + 3) lv (.int (pX7_isStack a1) :: rest)) (hcs : cells ≤ R.cells ∧ slots ≤ R.slots := by exact ⟨Nat.zero_le _, Nat.zero_le _⟩) : GW p l e R s m args below meth c D A nL cells slots Q ws pc lv (.int a1 :: rest) := g_callS (n := 1) F kX7_isStack (by unfold mOK; decide +kernel) rfl cd_yX7_isStack hml st_yX7_isStack in_X7 hR hcs rfl hcat hd kk
theorem dX7_isCrane_0 : decode cX7_isCrane 0 = .ok (.iload_n 0, 1) := by decide +kernel
theorem dX7_isCrane_1 : decode cX7_isCrane 1 = .ok (.iconst 0, 1) := by decide +kernel
theorem dX7_isCrane_2 : decode cX7_isCrane 2 = .ok (.iconst 1, 1) := by decide +kernel
theorem dX7_isCrane_3 : decode cX7_isCrane 3 = .ok (.invokestatic 90, 3) := by decide +kernel
theorem dX7_isCrane_6 : decode cX7_isCrane 6 = .ok (.ireturn, 1) := by decide +kernel
def pX7_isCrane (a1 : Int32) : Int32 := pX7_in a1 0 1
set_option maxHeartbeats 4000000 in
set_option maxRecDepth 20000 in
theorem kX7_isCrane {l : Launch} {D : va_G} {Y : Nat → ClassId} {a1 : Int32} : CMi l yX7_isCrane cX7_isCrane 1 (some .boolean) 1 22 D Y [] [] [.int a1] (pX7_isCrane a1) := by
  obtain ⟨r, hX⟩ : ∃ r, pX7_isCrane a1 = r := ⟨_, rfl⟩
  rw [hX]
  refine cm_ofi (by decide) (Nat.le_of_ble_eq_true rfl) rfl (fun p e s m args below meth c A F hr hlk => ?_)
  show GW p l e { frames := 1, cells := 0, slots := 0, locals := 22 } s m args below meth c D A 1 0 0 (MQ below (QI D [] r A) args s 0 0 A) [] 0 [(0, .int a1)] []
  have hX : (pX7_in a1 0 1) = r := hX
  refine g_iload_n F dX7_isCrane_0 0 rfl rfl ?_
  refine g_iconst (v := 0) F dX7_isCrane_1 (by decide) ?_
  refine g_iconst (v := 1) F dX7_isCrane_2 (by decide) ?_
  refine callX7_in F ml_X7_90 ⟨Nat.le_of_ble_eq_true rfl, Nat.le_of_ble_eq_true rfl⟩ (Nat.le_of_ble_eq_true rfl) dX7_isCrane_3 ?_
  exact g_retS F hr (nar01 b01_X7_in) hlk dX7_isCrane_6 hX
theorem b01_X7_isCrane {a1 : Int32} : pX7_isCrane a1 = 0 ∨ pX7_isCrane a1 = 1 := by
  simp only [pX7_isCrane]
  repeat' split
  all_goals first | exact Or.inl rfl | exact Or.inr rfl | exact b01_X7_in
theorem callX7_isCrane {p : Program} {l : Launch} {e : Env} {R : Room} {s : State} {m : MethodId} {args : Array Value} {below : List Frame} {meth : Method} {c : Code} {D : va_G} {Y : Nat → ClassId} {A : Nat → Prop} {cc : ByteArray} {nL : Nat} {own : String} {Q : State → Prop} {pc : Nat} {lv : List (Nat × Value)} {rest : List Value} {cells slots : Nat} {ws : va_W} {a1 : Int32} (F : Fx p s m args c D Y A cc nL own) {index : Nat} (hml : Cond.methodLink own index yX7_isCrane ∈ TBL) (hR : 1 + 1 ≤ R.frames ∧ 8 + (1 + 11) + 22 ≤ R.locals) (hcat : (rest.map fun v => v.category).sum ≤ 8) (hd : decode cc pc = .ok (.invokestatic index, 3)) (kk : GW p l e R s m args below meth c D A nL cells slots Q ws (pc + 3) lv (.int (pX7_isCrane a1) :: rest)) (hcs : cells ≤ R.cells ∧ slots ≤ R.slots := by exact ⟨Nat.zero_le _, Nat.zero_le _⟩) : GW p l e R s m args below meth c D A nL cells slots Q ws pc lv (.int a1 :: rest) := g_callS (n := 1) F kX7_isCrane (by unfold mOK; decide +kernel) rfl cd_yX7_isCrane hml st_yX7_isCrane in_X7 hR hcs rfl hcat hd kk
theorem dX7_slotOf_0 : decode cX7_slotOf 0 = .ok (.bipush 100, 2) := by decide +kernel
theorem dX7_slotOf_2 : decode cX7_slotOf 2 = .ok (.iload_n 0, 1) := by decide +kernel
theorem dX7_slotOf_3 : decode cX7_slotOf 3 = .ok (.bipush 12, 2) := by decide +kernel
theorem dX7_slotOf_5 : decode cX7_slotOf 5 = .ok (.idiv, 1) := by decide +kernel
theorem dX7_slotOf_6 : decode cX7_slotOf 6 = .ok (.imul, 1) := by decide +kernel
theorem dX7_slotOf_7 : decode cX7_slotOf 7 = .ok (.bipush 10, 2) := by decide +kernel
theorem dX7_slotOf_9 : decode cX7_slotOf 9 = .ok (.iload_n 0, 1) := by decide +kernel
theorem dX7_slotOf_10 : decode cX7_slotOf 10 = .ok (.iconst 4, 1) := by decide +kernel
theorem dX7_slotOf_11 : decode cX7_slotOf 11 = .ok (.idiv, 1) := by decide +kernel
theorem dX7_slotOf_12 : decode cX7_slotOf 12 = .ok (.iconst 3, 1) := by decide +kernel
theorem dX7_slotOf_13 : decode cX7_slotOf 13 = .ok (.irem, 1) := by decide +kernel
theorem dX7_slotOf_14 : decode cX7_slotOf 14 = .ok (.imul, 1) := by decide +kernel
theorem dX7_slotOf_15 : decode cX7_slotOf 15 = .ok (.iadd, 1) := by decide +kernel
theorem dX7_slotOf_16 : decode cX7_slotOf 16 = .ok (.iload_n 0, 1) := by decide +kernel
theorem dX7_slotOf_17 : decode cX7_slotOf 17 = .ok (.iconst 4, 1) := by decide +kernel
theorem dX7_slotOf_18 : decode cX7_slotOf 18 = .ok (.irem, 1) := by decide +kernel
theorem dX7_slotOf_19 : decode cX7_slotOf 19 = .ok (.iadd, 1) := by decide +kernel
theorem dX7_slotOf_20 : decode cX7_slotOf 20 = .ok (.ireturn, 1) := by decide +kernel
def pX7_slotOf (a1 : Int32) : Int32 := ((100 * (a1 / 12)) + (10 * ((a1 / 4) - (a1 / 4) / 3 * 3))) + (a1 - a1 / 4 * 4)
set_option maxHeartbeats 4000000 in
set_option maxRecDepth 20000 in
theorem kX7_slotOf {l : Launch} {D : va_G} {Y : Nat → ClassId} {a1 : Int32} : CMi l yX7_slotOf cX7_slotOf 1 (some .int) 0 0 D Y [] [] [.int a1] (pX7_slotOf a1) := by
  obtain ⟨r, hX⟩ : ∃ r, pX7_slotOf a1 = r := ⟨_, rfl⟩
  rw [hX]
  refine cm_ofi (by decide) (Nat.le_of_ble_eq_true rfl) rfl (fun p e s m args below meth c A F hr hlk => ?_)
  show GW p l e { frames := 0, cells := 0, slots := 0, locals := 0 } s m args below meth c D A 1 0 0 (MQ below (QI D [] r A) args s 0 0 A) [] 0 [(0, .int a1)] []
  have hX : (((100 * (a1 / 12)) + (10 * ((a1 / 4) - (a1 / 4) / 3 * 3))) + (a1 - a1 / 4 * 4)) = r := hX
  refine g_bipush (v := 100) F dX7_slotOf_0 (by decide) ?_
  refine g_iload_n F dX7_slotOf_2 0 rfl rfl ?_
  refine g_bipush (v := 12) F dX7_slotOf_3 (by decide) ?_
  refine g_idiv F dX7_slotOf_5 (by decide) ?_
  refine g_imul F dX7_slotOf_6 ?_
  refine g_bipush (v := 10) F dX7_slotOf_7 (by decide) ?_
  refine g_iload_n F dX7_slotOf_9 0 rfl rfl ?_
  refine g_iconst (v := 4) F dX7_slotOf_10 (by decide) ?_
  refine g_idiv F dX7_slotOf_11 (by decide) ?_
  refine g_iconst (v := 3) F dX7_slotOf_12 (by decide) ?_
  refine g_irem F dX7_slotOf_13 (by decide) ?_
  refine g_imul F dX7_slotOf_14 ?_
  refine g_iadd F dX7_slotOf_15 ?_
  refine g_iload_n F dX7_slotOf_16 0 rfl rfl ?_
  refine g_iconst (v := 4) F dX7_slotOf_17 (by decide) ?_
  refine g_irem F dX7_slotOf_18 (by decide) ?_
  refine g_iadd F dX7_slotOf_19 ?_
  exact g_retS F hr rfl hlk dX7_slotOf_20 hX
theorem callX7_slotOf {p : Program} {l : Launch} {e : Env} {R : Room} {s : State} {m : MethodId} {args : Array Value} {below : List Frame} {meth : Method} {c : Code} {D : va_G} {Y : Nat → ClassId} {A : Nat → Prop} {cc : ByteArray} {nL : Nat} {own : String} {Q : State → Prop} {pc : Nat} {lv : List (Nat × Value)} {rest : List Value} {cells slots : Nat} {ws : va_W} {a1 : Int32} (F : Fx p s m args c D Y A cc nL own) {index : Nat} (hml : Cond.methodLink own index yX7_slotOf ∈ TBL) (hR : 0 + 1 ≤ R.frames ∧ 8 + (1 + 11) + 0 ≤ R.locals) (hcat : (rest.map fun v => v.category).sum ≤ 8) (hd : decode cc pc = .ok (.invokestatic index, 3)) (kk : GW p l e R s m args below meth c D A nL cells slots Q ws (pc + 3) lv (.int (pX7_slotOf a1) :: rest)) (hcs : cells ≤ R.cells ∧ slots ≤ R.slots := by exact ⟨Nat.zero_le _, Nat.zero_le _⟩) : GW p l e R s m args below meth c D A nL cells slots Q ws pc lv (.int a1 :: rest) := g_callS (n := 1) F kX7_slotOf (by unfold mOK; decide +kernel) rfl cd_yX7_slotOf hml st_yX7_slotOf in_X7 hR hcs rfl hcat hd kk
theorem dX7_isBeyond_0 : decode cX7_isBeyond 0 = .ok (.iload_n 0, 1) := by decide +kernel
theorem dX7_isBeyond_1 : decode cX7_isBeyond 1 = .ok (.iload_n 1, 1) := by decide +kernel
theorem dX7_isBeyond_2 : decode cX7_isBeyond 2 = .ok (.if_icmp .gt 9, 3) := by decide +kernel
theorem dX7_isBeyond_5 : decode cX7_isBeyond 5 = .ok (.iload_n 0, 1) := by decide +kernel
theorem dX7_isBeyond_6 : decode cX7_isBeyond 6 = .ok (.iload_n 1, 1) := by decide +kernel
theorem dX7_isBeyond_7 : decode cX7_isBeyond 7 = .ok (.ineg, 1) := by decide +kernel
theorem dX7_isBeyond_8 : decode cX7_isBeyond 8 = .ok (.if_icmp .ge 7, 3) := by decide +kernel
theorem dX7_isBeyond_11 : decode cX7_isBeyond 11 = .ok (.iconst 1, 1) := by decide +kernel
theorem dX7_isBeyond_12 : decode cX7_isBeyond 12 = .ok (.goto 4, 3) := by decide +kernel
theorem dX7_isBeyond_15 : decode cX7_isBeyond 15 = .ok (.iconst 0, 1) := by decide +kernel
theorem dX7_isBeyond_16 : decode cX7_isBeyond 16 = .ok (.ireturn, 1) := by decide +kernel
def pX7_isBeyond_b11   : Int32 := 1
def pX7_isBeyond (a1 : Int32) (a2 : Int32) : Int32 := if a2 < a1 then (pX7_isBeyond_b11) else (if (-a2) ≤ a1 then (0) else (pX7_isBeyond_b11))
set_option maxHeartbeats 4000000 in
set_option maxRecDepth 20000 in
theorem kX7_isBeyond {l : Launch} {D : va_G} {Y : Nat → ClassId} {a1 a2 : Int32} : CMi l yX7_isBeyond cX7_isBeyond 2 (some .boolean) 0 0 D Y [] [] [.int a1, .int a2] (pX7_isBeyond a1 a2) := by
  obtain ⟨r, hX⟩ : ∃ r, pX7_isBeyond a1 a2 = r := ⟨_, rfl⟩
  rw [hX]
  refine cm_ofi (by decide) (Nat.le_of_ble_eq_true rfl) rfl (fun p e s m args below meth c A F hr hlk => ?_)
  show GW p l e { frames := 0, cells := 0, slots := 0, locals := 0 } s m args below meth c D A 2 0 0 (MQ below (QI D [] r A) args s 0 0 A) [] 0 [(0, .int a1), (1, .int a2)] []
  have b11 : pX7_isBeyond_b11   = r → GW p l e { frames := 0, cells := 0, slots := 0, locals := 0 } s m args below meth c D A 2 0 0 (MQ below (QI D [] r A) args s 0 0 A) [] 11 [] [] := by
    intro   hX
    have hX : (1) = r := hX
    refine g_iconst (v := 1) F dX7_isBeyond_11 (by decide) ?_
    refine g_goto (tgt := 16) F dX7_isBeyond_12 (by decide) ?_
    exact g_retS F hr rfl hlk dX7_isBeyond_16 hX
  have hX : (if a2 < a1 then (pX7_isBeyond_b11) else (if (-a2) ≤ a1 then (0) else (pX7_isBeyond_b11))) = r := hX
  refine g_iload_n F dX7_isBeyond_0 0 rfl rfl ?_
  refine g_iload_n F dX7_isBeyond_1 1 rfl rfl ?_
  refine g_icmp_gt (tgt := 11) F dX7_isBeyond_2 (by decide) (fun c1 => ?_) (fun c1 => ?_)
  · have hX := if_t hX c1
    refine g_sub [] rfl ?_
    exact b11  hX
  · have hX := if_f hX c1
    refine g_iload_n F dX7_isBeyond_5 0 rfl rfl ?_
    refine g_iload_n F dX7_isBeyond_6 1 rfl rfl ?_
    refine g_ineg F dX7_isBeyond_7 ?_
    refine g_icmp_ge (tgt := 15) F dX7_isBeyond_8 (by decide) (fun c2 => ?_) (fun c2 => ?_)
    · have hX := if_t hX c2
      refine g_iconst (v := 0) F dX7_isBeyond_15 (by decide) ?_
      exact g_retS F hr rfl hlk dX7_isBeyond_16 hX
    · have hX := if_f hX c2
      refine g_sub [] rfl ?_
      exact b11  hX
theorem b01_X7_isBeyond {a1 a2 : Int32} : pX7_isBeyond a1 a2 = 0 ∨ pX7_isBeyond a1 a2 = 1 := by
  simp only [pX7_isBeyond_b11, pX7_isBeyond]
  repeat' split
  all_goals first | exact Or.inl rfl | exact Or.inr rfl 
theorem callX7_isBeyond {p : Program} {l : Launch} {e : Env} {R : Room} {s : State} {m : MethodId} {args : Array Value} {below : List Frame} {meth : Method} {c : Code} {D : va_G} {Y : Nat → ClassId} {A : Nat → Prop} {cc : ByteArray} {nL : Nat} {own : String} {Q : State → Prop} {pc : Nat} {lv : List (Nat × Value)} {rest : List Value} {cells slots : Nat} {ws : va_W} {a1 a2 : Int32} (F : Fx p s m args c D Y A cc nL own) {index : Nat} (hml : Cond.methodLink own index yX7_isBeyond ∈ TBL) (hR : 0 + 1 ≤ R.frames ∧ 8 + (2 + 11) + 0 ≤ R.locals) (hcat : (rest.map fun v => v.category).sum ≤ 8) (hd : decode cc pc = .ok (.invokestatic index, 3)) (kk : GW p l e R s m args below meth c D A nL cells slots Q ws (pc + 3) lv (.int (pX7_isBeyond a1 a2) :: rest)) (hcs : cells ≤ R.cells ∧ slots ≤ R.slots := by exact ⟨Nat.zero_le _, Nat.zero_le _⟩) : GW p l e R s m args below meth c D A nL cells slots Q ws pc lv (.int a2 :: .int a1 :: rest) := g_callS (n := 2) F kX7_isBeyond (by unfold mOK; decide +kernel) rfl cd_yX7_isBeyond hml st_yX7_isBeyond in_X7 hR hcs rfl hcat hd kk
