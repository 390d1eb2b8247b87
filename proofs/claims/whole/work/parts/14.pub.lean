/-! the class's public methods that throw (by program: wip/whole/gen/gen.py) -/
theorem dX6_plug_0 : decode cX6_plug 0 = .ok (.iload_n 1, 1) := by decide +kernel
theorem dX6_plug_1 : decode cX6_plug 1 = .ok (.invokestatic 63, 3) := by decide +kernel
theorem dX6_plug_4 : decode cX6_plug 4 = .ok (.ifCond .ne 13, 3) := by decide +kernel
theorem dX6_plug_7 : decode cX6_plug 7 = .ok (.new 67, 3) := by decide +kernel
theorem dX6_plug_10 : decode cX6_plug 10 = .ok (.dup, 1) := by decide +kernel
theorem dX6_plug_11 : decode cX6_plug 11 = .ok (.ldc 69, 2) := by decide +kernel
theorem dX6_plug_13 : decode cX6_plug 13 = .ok (.invokespecial 71, 3) := by decide +kernel
theorem dX6_plug_16 : decode cX6_plug 16 = .ok (.athrow, 1) := by decide +kernel
theorem dX6_plug_17 : decode cX6_plug 17 = .ok (.aload_n 0, 1) := by decide +kernel
theorem dX6_plug_18 : decode cX6_plug 18 = .ok (.getfield 26, 3) := by decide +kernel
theorem dX6_plug_21 : decode cX6_plug 21 = .ok (.iload_n 1, 1) := by decide +kernel
theorem dX6_plug_22 : decode cX6_plug 22 = .ok (.invokevirtual 74, 3) := by decide +kernel
theorem dX6_plug_25 : decode cX6_plug 25 = .ok (.istore_n 2, 1) := by decide +kernel
theorem dX6_plug_26 : decode cX6_plug 26 = .ok (.iload_n 2, 1) := by decide +kernel
theorem dX6_plug_27 : decode cX6_plug 27 = .ok (.iconst (-1), 1) := by decide +kernel
theorem dX6_plug_28 : decode cX6_plug 28 = .ok (.if_icmp .eq 28, 3) := by decide +kernel
theorem dX6_plug_31 : decode cX6_plug 31 = .ok (.aload_n 0, 1) := by decide +kernel
theorem dX6_plug_32 : decode cX6_plug 32 = .ok (.getfield 10, 3) := by decide +kernel
theorem dX6_plug_35 : decode cX6_plug 35 = .ok (.getfield 78, 3) := by decide +kernel
theorem dX6_plug_38 : decode cX6_plug 38 = .ok (.iload_n 2, 1) := by decide +kernel
theorem dX6_plug_39 : decode cX6_plug 39 = .ok (.invokevirtual 81, 3) := by decide +kernel
theorem dX6_plug_42 : decode cX6_plug 42 = .ok (.iconst 1, 1) := by decide +kernel
theorem dX6_plug_43 : decode cX6_plug 43 = .ok (.if_icmp .ne 13, 3) := by decide +kernel
theorem dX6_plug_46 : decode cX6_plug 46 = .ok (.new 84, 3) := by decide +kernel
theorem dX6_plug_49 : decode cX6_plug 49 = .ok (.dup, 1) := by decide +kernel
theorem dX6_plug_50 : decode cX6_plug 50 = .ok (.ldc 86, 2) := by decide +kernel
theorem dX6_plug_52 : decode cX6_plug 52 = .ok (.invokespecial 88, 3) := by decide +kernel
theorem dX6_plug_55 : decode cX6_plug 55 = .ok (.athrow, 1) := by decide +kernel
theorem dX6_plug_56 : decode cX6_plug 56 = .ok (.aload_n 0, 1) := by decide +kernel
theorem dX6_plug_57 : decode cX6_plug 57 = .ok (.getfield 26, 3) := by decide +kernel
theorem dX6_plug_60 : decode cX6_plug 60 = .ok (.iload_n 1, 1) := by decide +kernel
theorem dX6_plug_61 : decode cX6_plug 61 = .ok (.invokevirtual 89, 3) := by decide +kernel
theorem dX6_plug_64 : decode cX6_plug 64 = .ok (.aload_n 0, 1) := by decide +kernel
theorem dX6_plug_65 : decode cX6_plug 65 = .ok (.getfield 26, 3) := by decide +kernel
theorem dX6_plug_68 : decode cX6_plug 68 = .ok (.iload_n 1, 1) := by decide +kernel
theorem dX6_plug_69 : decode cX6_plug 69 = .ok (.invokevirtual 93, 3) := by decide +kernel
theorem dX6_plug_72 : decode cX6_plug 72 = .ok (.ireturn, 1) := by decide +kernel
def pX6_plug_b56  (x1 : Int32) (v : St) : Option (Nat × Int32 × St) := bnd (pX4_turnPlug x1 v) (fun r6 w7 => bnd (pX4_hasPlug x1 w7) (fun r9 w10 => if r9 = 0 ∨ r9 = 1 then some (0, r9, w10) else none))
def pX6_plug (a1 : Int32) (u : St) : Option (Nat × Int32 × St) := if (pX6_isSlot a1) = 0 then (some (1, 0, u)) else (bnd (pX4_boxIn a1 u) (fun r2 w3 => if r2 = ((-1)) then (pX6_plug_b56 a1 w3) else (if (rg w3 3 r2) = 1 then (some (3, 0, w3)) else (pX6_plug_b56 a1 w3))))
set_option maxHeartbeats 4000000 in
set_option maxRecDepth 20000 in
theorem kX6_plug {l : Launch} {D : va_G} {Y : Nat → ClassId} {q : Nat → Nat} {a1 : Int32} {u u1 : St} {k : Nat} {r : Int32} (hX : pX6_plug a1 u = some (k, r, u1)) (hl9 : l.stackTraces = false) : CMt false l yX6_plug cX6_plug 3 (some .boolean) 6 90 D Y (wC Y q u) (wC Y q u1) [.ref (q 0), .int a1] k r := by
  refine cm_oft (by decide) (Nat.le_of_ble_eq_true rfl) rfl (fun p e s m args below meth c A F hr hlk hT hex => ?_)
  show GW p l e { frames := 6, cells := 1, slots := 6, locals := 90 } s m args below meth c D A 3 0 0 (QT false below args s D (wC Y q u1) A k r) (wC Y q u) 0 [(0, .ref (q 0)), (1, .int a1)] []
  have b56 : ∀  (x1 : Int32) (v : St), pX6_plug_b56  x1 v = some (k, r, u1) → GW p l e { frames := 6, cells := 1, slots := 6, locals := 90 } s m args below meth c D A 3 0 0 (QT false below args s D (wC Y q u1) A k r) (wC Y q v) 56 [(0, .ref (q 0)), (1, .int x1)] [] := by
    intro  x1 v hX
    have hX : ((bnd (pX4_turnPlug x1 v) (fun r6 w7 => bnd (pX4_hasPlug x1 w7) (fun r9 w10 => if r9 = 0 ∨ r9 = 1 then some (0, r9, w10) else none))) : Option (Nat × Int32 × St)) = some (k, r, u1) := hX
    refine g_aload_n F dX6_plug_56 0 rfl rfl ?_
    refine G_X6_26 F dX6_plug_57 ?_
    refine g_iload_n F dX6_plug_60 1 rfl rfl ?_
    obtain ⟨r6, w7, hc8, hX⟩ := bnd_s hX
    refine callX4_turnPlug F hc8 ml_X6_89 ⟨Nat.le_of_ble_eq_true rfl, Nat.le_of_ble_eq_true rfl⟩ (Nat.le_of_ble_eq_true rfl) dX6_plug_61 ?_
    refine g_aload_n F dX6_plug_64 0 rfl rfl ?_
    refine G_X6_26 F dX6_plug_65 ?_
    refine g_iload_n F dX6_plug_68 1 rfl rfl ?_
    obtain ⟨r9, w10, hc11, hX⟩ := bnd_s hX
    refine callX4_hasPlug F hc11 ml_X6_93 ⟨Nat.le_of_ble_eq_true rfl, Nat.le_of_ble_eq_true rfl⟩ (Nat.le_of_ble_eq_true rfl) dX6_plug_69 ?_
    exact g_retTb (wf := wC Y q) F hr hlk dX6_plug_72 hX
  have hX : ((if (pX6_isSlot a1) = 0 then (some (1, 0, u)) else (bnd (pX4_boxIn a1 u) (fun r2 w3 => if r2 = ((-1)) then (pX6_plug_b56 a1 w3) else (if (rg w3 3 r2) = 1 then (some (3, 0, w3)) else (pX6_plug_b56 a1 w3))))) : Option (Nat × Int32 × St)) = some (k, r, u1) := hX
  refine g_iload_n F dX6_plug_0 1 rfl rfl ?_
  refine callX6_isSlot F ml_X6_63 ⟨Nat.le_of_ble_eq_true rfl, Nat.le_of_ble_eq_true rfl⟩ (Nat.le_of_ble_eq_true rfl) dX6_plug_1 ?_
  refine g_if_ne (tgt := 17) F dX6_plug_4 (by decide) (fun c1 => ?_) (fun c1 => ?_)
  · have hX := if_f hX c1
    refine g_aload_n F dX6_plug_17 0 rfl rfl ?_
    refine G_X6_26 F dX6_plug_18 ?_
    refine g_iload_n F dX6_plug_21 1 rfl rfl ?_
    obtain ⟨r2, w3, hc4, hX⟩ := bnd_s hX
    refine callX4_boxIn F hc4 ml_X6_74 ⟨Nat.le_of_ble_eq_true rfl, Nat.le_of_ble_eq_true rfl⟩ (Nat.le_of_ble_eq_true rfl) dX6_plug_22 ?_
    refine g_istore_n (lv' := [(2, .int r2), (0, .ref (q 0)), (1, .int a1)]) F dX6_plug_25 rfl (by decide) rfl ?_
    refine g_iload_n F dX6_plug_26 0 rfl rfl ?_
    refine g_iconst (v := (-1)) F dX6_plug_27 (by decide) ?_
    refine g_icmp_eq (tgt := 56) F dX6_plug_28 (by decide) (fun c5 => ?_) (fun c5 => ?_)
    · have hX := if_t hX c5
      refine g_sub [1, 2] rfl ?_
      exact b56 a1 w3 hX
    · have hX := if_f hX c5
      refine g_aload_n F dX6_plug_31 1 rfl rfl ?_
      refine G_X6_10 F dX6_plug_32 ?_
      refine G_X6_78 F dX6_plug_35 ?_
      refine g_iload_n F dX6_plug_38 0 rfl rfl ?_
      refine C_rget F 3 (by decide) ml_X6_81 ⟨Nat.le_of_ble_eq_true rfl, Nat.le_of_ble_eq_true rfl⟩ (Nat.le_of_ble_eq_true rfl) dX6_plug_39 ?_
      refine g_iconst (v := 1) F dX6_plug_42 (by decide) ?_
      refine g_icmp_ne (tgt := 56) F dX6_plug_43 (by decide) (fun c12 => ?_) (fun c12 => ?_)
      · have hX := if_f hX c12
        refine g_sub [1, 2] rfl ?_
        exact b56 a1 w3 hX
      · have hX := if_t hX c12
        exact g_throwS F hl9 hT hex hlk (kc := 3) (is := 86) (text := "a cold box is there") cl_X6_84 in_IllegalStateException (List.mem_of_getElem? (i := 1) rfl) at_88 (by decide) (by decide +kernel) dX6_plug_46 dX6_plug_49 dX6_plug_50 dX6_plug_52 dX6_plug_55 ⟨Nat.le_of_ble_eq_true rfl, Nat.le_of_ble_eq_true rfl, Nat.le_refl _, Nat.le_refl _⟩ hX
  · have hX := if_t hX c1
    exact g_throwS F hl9 hT hex hlk (kc := 1) (is := 69) (text := "no such slot") cl_X6_67 in_IndexOutOfBoundsException (List.mem_of_getElem? (i := 0) rfl) at_71 (by decide) (by decide +kernel) dX6_plug_7 dX6_plug_10 dX6_plug_11 dX6_plug_13 dX6_plug_16 ⟨Nat.le_of_ble_eq_true rfl, Nat.le_of_ble_eq_true rfl, Nat.le_refl _, Nat.le_refl _⟩ hX
theorem dX6_bounds_0 : decode cX6_bounds 0 = .ok (.iload_n 1, 1) := by decide +kernel
theorem dX6_bounds_1 : decode cX6_bounds 1 = .ok (.iconst 0, 1) := by decide +kernel
theorem dX6_bounds_2 : decode cX6_bounds 2 = .ok (.sipush 2000, 3) := by decide +kernel
theorem dX6_bounds_5 : decode cX6_bounds 5 = .ok (.invokestatic 96, 3) := by decide +kernel
theorem dX6_bounds_8 : decode cX6_bounds 8 = .ok (.ifCond .eq 25, 3) := by decide +kernel
theorem dX6_bounds_11 : decode cX6_bounds 11 = .ok (.iload_n 2, 1) := by decide +kernel
theorem dX6_bounds_12 : decode cX6_bounds 12 = .ok (.iconst 0, 1) := by decide +kernel
theorem dX6_bounds_13 : decode cX6_bounds 13 = .ok (.sipush 2000, 3) := by decide +kernel
theorem dX6_bounds_16 : decode cX6_bounds 16 = .ok (.invokestatic 96, 3) := by decide +kernel
theorem dX6_bounds_19 : decode cX6_bounds 19 = .ok (.ifCond .eq 14, 3) := by decide +kernel
theorem dX6_bounds_22 : decode cX6_bounds 22 = .ok (.iload_n 3, 1) := by decide +kernel
theorem dX6_bounds_23 : decode cX6_bounds 23 = .ok (.iconst 0, 1) := by decide +kernel
theorem dX6_bounds_24 : decode cX6_bounds 24 = .ok (.sipush 9999, 3) := by decide +kernel
theorem dX6_bounds_27 : decode cX6_bounds 27 = .ok (.invokestatic 96, 3) := by decide +kernel
theorem dX6_bounds_30 : decode cX6_bounds 30 = .ok (.ifCond .ne 13, 3) := by decide +kernel
theorem dX6_bounds_33 : decode cX6_bounds 33 = .ok (.new 100, 3) := by decide +kernel
theorem dX6_bounds_36 : decode cX6_bounds 36 = .ok (.dup, 1) := by decide +kernel
theorem dX6_bounds_37 : decode cX6_bounds 37 = .ok (.ldc 102, 2) := by decide +kernel
theorem dX6_bounds_39 : decode cX6_bounds 39 = .ok (.invokespecial 104, 3) := by decide +kernel
theorem dX6_bounds_42 : decode cX6_bounds 42 = .ok (.athrow, 1) := by decide +kernel
theorem dX6_bounds_43 : decode cX6_bounds 43 = .ok (.aload_n 0, 1) := by decide +kernel
theorem dX6_bounds_44 : decode cX6_bounds 44 = .ok (.iload_n 1, 1) := by decide +kernel
theorem dX6_bounds_45 : decode cX6_bounds 45 = .ok (.putfield 53, 3) := by decide +kernel
theorem dX6_bounds_48 : decode cX6_bounds 48 = .ok (.aload_n 0, 1) := by decide +kernel
theorem dX6_bounds_49 : decode cX6_bounds 49 = .ok (.iload_n 2, 1) := by decide +kernel
theorem dX6_bounds_50 : decode cX6_bounds 50 = .ok (.putfield 57, 3) := by decide +kernel
theorem dX6_bounds_53 : decode cX6_bounds 53 = .ok (.aload_n 0, 1) := by decide +kernel
theorem dX6_bounds_54 : decode cX6_bounds 54 = .ok (.iload_n 3, 1) := by decide +kernel
theorem dX6_bounds_55 : decode cX6_bounds 55 = .ok (.putfield 60, 3) := by decide +kernel
theorem dX6_bounds_58 : decode cX6_bounds 58 = .ok (.return_, 1) := by decide +kernel
def pX6_bounds_b33   (v : St) : Option (Nat × Int32 × St) := some (2, 0, v)
def pX6_bounds (a1 : Int32) (a2 : Int32) (a3 : Int32) (u : St) : Option (Nat × Int32 × St) := if (pX6_isWithin a1 0 2000) = 0 then (pX6_bounds_b33 u) else (if (pX6_isWithin a2 0 2000) = 0 then (pX6_bounds_b33 u) else (if (pX6_isWithin a3 0 9999) = 0 then (pX6_bounds_b33 u) else (some (0, 0, sS (sS (sS u 3 a1) 4 a2) 5 a3))))
set_option maxHeartbeats 4000000 in
set_option maxRecDepth 20000 in
theorem kX6_bounds {l : Launch} {D : va_G} {Y : Nat → ClassId} {q : Nat → Nat} {a1 a2 a3 : Int32} {u u1 : St} {k : Nat} {r : Int32} (hX : pX6_bounds a1 a2 a3 u = some (k, r, u1)) (hl9 : l.stackTraces = false) : CMt true l yX6_bounds cX6_bounds 4 none 6 90 D Y (wC Y q u) (wC Y q u1) [.ref (q 0), .int a1, .int a2, .int a3] k r := by
  refine cm_oft (by decide) (Nat.le_of_ble_eq_true rfl) rfl (fun p e s m args below meth c A F hr hlk hT hex => ?_)
  show GW p l e { frames := 6, cells := 1, slots := 6, locals := 90 } s m args below meth c D A 4 0 0 (QT true below args s D (wC Y q u1) A k r) (wC Y q u) 0 [(0, .ref (q 0)), (1, .int a1), (2, .int a2), (3, .int a3)] []
  have b33 : ∀   (v : St), pX6_bounds_b33  v = some (k, r, u1) → GW p l e { frames := 6, cells := 1, slots := 6, locals := 90 } s m args below meth c D A 4 0 0 (QT true below args s D (wC Y q u1) A k r) (wC Y q v) 33 [] [] := by
    intro  v hX
    have hX : ((some (2, 0, v)) : Option (Nat × Int32 × St)) = some (k, r, u1) := hX
    exact g_throwS F hl9 hT hex hlk (kc := 2) (is := 102) (text := "a bound is out of range") cl_X6_100 in_IllegalArgumentException (List.mem_of_getElem? (i := 2) rfl) at_104 (by decide) (by decide +kernel) dX6_bounds_33 dX6_bounds_36 dX6_bounds_37 dX6_bounds_39 dX6_bounds_42 ⟨Nat.le_of_ble_eq_true rfl, Nat.le_of_ble_eq_true rfl, Nat.le_refl _, Nat.le_refl _⟩ hX
  have hX : ((if (pX6_isWithin a1 0 2000) = 0 then (pX6_bounds_b33 u) else (if (pX6_isWithin a2 0 2000) = 0 then (pX6_bounds_b33 u) else (if (pX6_isWithin a3 0 9999) = 0 then (pX6_bounds_b33 u) else (some (0, 0, sS (sS (sS u 3 a1) 4 a2) 5 a3))))) : Option (Nat × Int32 × St)) = some (k, r, u1) := hX
  refine g_iload_n F dX6_bounds_0 1 rfl rfl ?_
  refine g_iconst (v := 0) F dX6_bounds_1 (by decide) ?_
  refine g_sipush (v := 2000) F dX6_bounds_2 (by decide) ?_
  refine callX6_isWithin F ml_X6_96 ⟨Nat.le_of_ble_eq_true rfl, Nat.le_of_ble_eq_true rfl⟩ (Nat.le_of_ble_eq_true rfl) dX6_bounds_5 ?_
  refine g_if_eq (tgt := 33) F dX6_bounds_8 (by decide) (fun c1 => ?_) (fun c1 => ?_)
  · have hX := if_t hX c1
    refine g_sub [] rfl ?_
    exact b33 u hX
  · have hX := if_f hX c1
    refine g_iload_n F dX6_bounds_11 2 rfl rfl ?_
    refine g_iconst (v := 0) F dX6_bounds_12 (by decide) ?_
    refine g_sipush (v := 2000) F dX6_bounds_13 (by decide) ?_
    refine callX6_isWithin F ml_X6_96 ⟨Nat.le_of_ble_eq_true rfl, Nat.le_of_ble_eq_true rfl⟩ (Nat.le_of_ble_eq_true rfl) dX6_bounds_16 ?_
    refine g_if_eq (tgt := 33) F dX6_bounds_19 (by decide) (fun c2 => ?_) (fun c2 => ?_)
    · have hX := if_t hX c2
      refine g_sub [] rfl ?_
      exact b33 u hX
    · have hX := if_f hX c2
      refine g_iload_n F dX6_bounds_22 3 rfl rfl ?_
      refine g_iconst (v := 0) F dX6_bounds_23 (by decide) ?_
      refine g_sipush (v := 9999) F dX6_bounds_24 (by decide) ?_
      refine callX6_isWithin F ml_X6_96 ⟨Nat.le_of_ble_eq_true rfl, Nat.le_of_ble_eq_true rfl⟩ (Nat.le_of_ble_eq_true rfl) dX6_bounds_27 ?_
      refine g_if_ne (tgt := 43) F dX6_bounds_30 (by decide) (fun c3 => ?_) (fun c3 => ?_)
      · have hX := if_f hX c3
        refine g_aload_n F dX6_bounds_43 0 rfl rfl ?_
        refine g_iload_n F dX6_bounds_44 1 rfl rfl ?_
        refine P_X6_53 F dX6_bounds_45 ?_
        refine g_aload_n F dX6_bounds_48 0 rfl rfl ?_
        refine g_iload_n F dX6_bounds_49 2 rfl rfl ?_
        refine P_X6_57 F dX6_bounds_50 ?_
        refine g_aload_n F dX6_bounds_53 0 rfl rfl ?_
        refine g_iload_n F dX6_bounds_54 3 rfl rfl ?_
        refine P_X6_60 F dX6_bounds_55 ?_
        exact g_retTv (wf := wC Y q) F hr hlk dX6_bounds_58 hX
      · have hX := if_t hX c3
        refine g_sub [] rfl ?_
        exact b33 u hX
theorem dX6_tank_0 : decode cX6_tank 0 = .ok (.iload_n 1, 1) := by decide +kernel
theorem dX6_tank_1 : decode cX6_tank 1 = .ok (.invokestatic 105, 3) := by decide +kernel
theorem dX6_tank_4 : decode cX6_tank 4 = .ok (.ifCond .ne 13, 3) := by decide +kernel
theorem dX6_tank_7 : decode cX6_tank 7 = .ok (.new 67, 3) := by decide +kernel
theorem dX6_tank_10 : decode cX6_tank 10 = .ok (.dup, 1) := by decide +kernel
theorem dX6_tank_11 : decode cX6_tank 11 = .ok (.ldc 108, 2) := by decide +kernel
theorem dX6_tank_13 : decode cX6_tank 13 = .ok (.invokespecial 71, 3) := by decide +kernel
theorem dX6_tank_16 : decode cX6_tank 16 = .ok (.athrow, 1) := by decide +kernel
theorem dX6_tank_17 : decode cX6_tank 17 = .ok (.iload_n 2, 1) := by decide +kernel
theorem dX6_tank_18 : decode cX6_tank 18 = .ok (.iconst 0, 1) := by decide +kernel
theorem dX6_tank_19 : decode cX6_tank 19 = .ok (.bipush 99, 2) := by decide +kernel
theorem dX6_tank_21 : decode cX6_tank 21 = .ok (.invokestatic 96, 3) := by decide +kernel
theorem dX6_tank_24 : decode cX6_tank 24 = .ok (.ifCond .ne 13, 3) := by decide +kernel
theorem dX6_tank_27 : decode cX6_tank 27 = .ok (.new 100, 3) := by decide +kernel
theorem dX6_tank_30 : decode cX6_tank 30 = .ok (.dup, 1) := by decide +kernel
theorem dX6_tank_31 : decode cX6_tank 31 = .ok (.ldc 110, 2) := by decide +kernel
theorem dX6_tank_33 : decode cX6_tank 33 = .ok (.invokespecial 104, 3) := by decide +kernel
theorem dX6_tank_36 : decode cX6_tank 36 = .ok (.athrow, 1) := by decide +kernel
theorem dX6_tank_37 : decode cX6_tank 37 = .ok (.aload_n 0, 1) := by decide +kernel
theorem dX6_tank_38 : decode cX6_tank 38 = .ok (.getfield 26, 3) := by decide +kernel
theorem dX6_tank_41 : decode cX6_tank 41 = .ok (.getfield 112, 3) := by decide +kernel
theorem dX6_tank_44 : decode cX6_tank 44 = .ok (.iload_n 1, 1) := by decide +kernel
theorem dX6_tank_45 : decode cX6_tank 45 = .ok (.invokevirtual 81, 3) := by decide +kernel
theorem dX6_tank_48 : decode cX6_tank 48 = .ok (.istore_n 3, 1) := by decide +kernel
theorem dX6_tank_49 : decode cX6_tank 49 = .ok (.aload_n 0, 1) := by decide +kernel
theorem dX6_tank_50 : decode cX6_tank 50 = .ok (.getfield 26, 3) := by decide +kernel
theorem dX6_tank_53 : decode cX6_tank 53 = .ok (.getfield 112, 3) := by decide +kernel
theorem dX6_tank_56 : decode cX6_tank 56 = .ok (.iload_n 1, 1) := by decide +kernel
theorem dX6_tank_57 : decode cX6_tank 57 = .ok (.iload_n 2, 1) := by decide +kernel
theorem dX6_tank_58 : decode cX6_tank 58 = .ok (.invokevirtual 115, 3) := by decide +kernel
theorem dX6_tank_61 : decode cX6_tank 61 = .ok (.aload_n 0, 1) := by decide +kernel
theorem dX6_tank_62 : decode cX6_tank 62 = .ok (.getfield 26, 3) := by decide +kernel
theorem dX6_tank_65 : decode cX6_tank 65 = .ok (.getfield 118, 3) := by decide +kernel
theorem dX6_tank_68 : decode cX6_tank 68 = .ok (.iload_n 1, 1) := by decide +kernel
theorem dX6_tank_69 : decode cX6_tank 69 = .ok (.iload_n 2, 1) := by decide +kernel
theorem dX6_tank_70 : decode cX6_tank 70 = .ok (.iload_n 3, 1) := by decide +kernel
theorem dX6_tank_71 : decode cX6_tank 71 = .ok (.isub, 1) := by decide +kernel
theorem dX6_tank_72 : decode cX6_tank 72 = .ok (.invokevirtual 121, 3) := by decide +kernel
theorem dX6_tank_75 : decode cX6_tank 75 = .ok (.iload_n 3, 1) := by decide +kernel
theorem dX6_tank_76 : decode cX6_tank 76 = .ok (.ireturn, 1) := by decide +kernel
def pX6_tank (a1 : Int32) (a2 : Int32) (u : St) : Option (Nat × Int32 × St) := if (pX6_isBay a1) = 0 then (some (1, 0, u)) else (if (pX6_isWithin a2 0 99) = 0 then (some (2, 0, u)) else (some (0, rg u 11 a1, ra (rs u 11 a1 a2) 12 a1 (a2 - (rg u 11 a1)))))
set_option maxHeartbeats 4000000 in
set_option maxRecDepth 20000 in
theorem kX6_tank {l : Launch} {D : va_G} {Y : Nat → ClassId} {q : Nat → Nat} {a1 a2 : Int32} {u u1 : St} {k : Nat} {r : Int32} (hX : pX6_tank a1 a2 u = some (k, r, u1)) (hl9 : l.stackTraces = false) : CMt false l yX6_tank cX6_tank 4 (some .int) 6 90 D Y (wC Y q u) (wC Y q u1) [.ref (q 0), .int a1, .int a2] k r := by
  refine cm_oft (by decide) (Nat.le_of_ble_eq_true rfl) rfl (fun p e s m args below meth c A F hr hlk hT hex => ?_)
  show GW p l e { frames := 6, cells := 1, slots := 6, locals := 90 } s m args below meth c D A 4 0 0 (QT false below args s D (wC Y q u1) A k r) (wC Y q u) 0 [(0, .ref (q 0)), (1, .int a1), (2, .int a2)] []
  have hX : ((if (pX6_isBay a1) = 0 then (some (1, 0, u)) else (if (pX6_isWithin a2 0 99) = 0 then (some (2, 0, u)) else (some (0, rg u 11 a1, ra (rs u 11 a1 a2) 12 a1 (a2 - (rg u 11 a1)))))) : Option (Nat × Int32 × St)) = some (k, r, u1) := hX
  refine g_iload_n F dX6_tank_0 1 rfl rfl ?_
  refine callX6_isBay F ml_X6_105 ⟨Nat.le_of_ble_eq_true rfl, Nat.le_of_ble_eq_true rfl⟩ (Nat.le_of_ble_eq_true rfl) dX6_tank_1 ?_
  refine g_if_ne (tgt := 17) F dX6_tank_4 (by decide) (fun c1 => ?_) (fun c1 => ?_)
  · have hX := if_f hX c1
    refine g_iload_n F dX6_tank_17 2 rfl rfl ?_
    refine g_iconst (v := 0) F dX6_tank_18 (by decide) ?_
    refine g_bipush (v := 99) F dX6_tank_19 (by decide) ?_
    refine callX6_isWithin F ml_X6_96 ⟨Nat.le_of_ble_eq_true rfl, Nat.le_of_ble_eq_true rfl⟩ (Nat.le_of_ble_eq_true rfl) dX6_tank_21 ?_
    refine g_if_ne (tgt := 37) F dX6_tank_24 (by decide) (fun c2 => ?_) (fun c2 => ?_)
    · have hX := if_f hX c2
      refine g_aload_n F dX6_tank_37 0 rfl rfl ?_
      refine G_X6_26 F dX6_tank_38 ?_
      refine G_X6_112 F dX6_tank_41 ?_
      refine g_iload_n F dX6_tank_44 1 rfl rfl ?_
      refine C_rget F 11 (by decide) ml_X6_81 ⟨Nat.le_of_ble_eq_true rfl, Nat.le_of_ble_eq_true rfl⟩ (Nat.le_of_ble_eq_true rfl) dX6_tank_45 ?_
      refine g_istore_n (lv' := [(3, .int (rg u 11 a1)), (0, .ref (q 0)), (1, .int a1), (2, .int a2)]) F dX6_tank_48 rfl (by decide) rfl ?_
      refine g_aload_n F dX6_tank_49 1 rfl rfl ?_
      refine G_X6_26 F dX6_tank_50 ?_
      refine G_X6_112 F dX6_tank_53 ?_
      refine g_iload_n F dX6_tank_56 2 rfl rfl ?_
      refine g_iload_n F dX6_tank_57 3 rfl rfl ?_
      refine C_rset F 11 (by decide) ml_X6_115 ⟨Nat.le_of_ble_eq_true rfl, Nat.le_of_ble_eq_true rfl⟩ (Nat.le_of_ble_eq_true rfl) dX6_tank_58 ?_
      refine g_aload_n F dX6_tank_61 1 rfl rfl ?_
      refine G_X6_26 F dX6_tank_62 ?_
      refine G_X6_118 F dX6_tank_65 ?_
      refine g_iload_n F dX6_tank_68 2 rfl rfl ?_
      refine g_iload_n F dX6_tank_69 3 rfl rfl ?_
      refine g_iload_n F dX6_tank_70 0 rfl rfl ?_
      refine g_isub F dX6_tank_71 ?_
      refine C_radd F 12 (by decide) ml_X6_121 ⟨Nat.le_of_ble_eq_true rfl, Nat.le_of_ble_eq_true rfl⟩ (Nat.le_of_ble_eq_true rfl) dX6_tank_72 ?_
      refine g_iload_n F dX6_tank_75 0 rfl rfl ?_
      exact g_retT (wf := wC Y q) F hr rfl hlk dX6_tank_76 hX
    · have hX := if_t hX c2
      exact g_throwS F hl9 hT hex hlk (kc := 2) (is := 110) (text := "water is out of range") cl_X6_100 in_IllegalArgumentException (List.mem_of_getElem? (i := 4) rfl) at_104 (by decide) (by decide +kernel) dX6_tank_27 dX6_tank_30 dX6_tank_31 dX6_tank_33 dX6_tank_36 ⟨Nat.le_of_ble_eq_true rfl, Nat.le_of_ble_eq_true rfl, Nat.le_refl _, Nat.le_refl _⟩ hX
  · have hX := if_t hX c1
    exact g_throwS F hl9 hT hex hlk (kc := 1) (is := 108) (text := "no such bay") cl_X6_67 in_IndexOutOfBoundsException (List.mem_of_getElem? (i := 3) rfl) at_71 (by decide) (by decide +kernel) dX6_tank_7 dX6_tank_10 dX6_tank_11 dX6_tank_13 dX6_tank_16 ⟨Nat.le_of_ble_eq_true rfl, Nat.le_of_ble_eq_true rfl, Nat.le_refl _, Nat.le_refl _⟩ hX
theorem dX6_jam_0 : decode cX6_jam 0 = .ok (.iload_n 1, 1) := by decide +kernel
theorem dX6_jam_1 : decode cX6_jam 1 = .ok (.invokestatic 105, 3) := by decide +kernel
theorem dX6_jam_4 : decode cX6_jam 4 = .ok (.ifCond .ne 13, 3) := by decide +kernel
theorem dX6_jam_7 : decode cX6_jam 7 = .ok (.new 67, 3) := by decide +kernel
theorem dX6_jam_10 : decode cX6_jam 10 = .ok (.dup, 1) := by decide +kernel
theorem dX6_jam_11 : decode cX6_jam 11 = .ok (.ldc 108, 2) := by decide +kernel
theorem dX6_jam_13 : decode cX6_jam 13 = .ok (.invokespecial 71, 3) := by decide +kernel
theorem dX6_jam_16 : decode cX6_jam 16 = .ok (.athrow, 1) := by decide +kernel
theorem dX6_jam_17 : decode cX6_jam 17 = .ok (.iload_n 2, 1) := by decide +kernel
theorem dX6_jam_18 : decode cX6_jam 18 = .ok (.iconst 1, 1) := by decide +kernel
theorem dX6_jam_19 : decode cX6_jam 19 = .ok (.bipush 50, 2) := by decide +kernel
theorem dX6_jam_21 : decode cX6_jam 21 = .ok (.invokestatic 96, 3) := by decide +kernel
theorem dX6_jam_24 : decode cX6_jam 24 = .ok (.ifCond .ne 13, 3) := by decide +kernel
theorem dX6_jam_27 : decode cX6_jam 27 = .ok (.new 100, 3) := by decide +kernel
theorem dX6_jam_30 : decode cX6_jam 30 = .ok (.dup, 1) := by decide +kernel
theorem dX6_jam_31 : decode cX6_jam 31 = .ok (.ldc 124, 2) := by decide +kernel
theorem dX6_jam_33 : decode cX6_jam 33 = .ok (.invokespecial 104, 3) := by decide +kernel
theorem dX6_jam_36 : decode cX6_jam 36 = .ok (.athrow, 1) := by decide +kernel
theorem dX6_jam_37 : decode cX6_jam 37 = .ok (.aload_n 0, 1) := by decide +kernel
theorem dX6_jam_38 : decode cX6_jam 38 = .ok (.getfield 26, 3) := by decide +kernel
theorem dX6_jam_41 : decode cX6_jam 41 = .ok (.getfield 126, 3) := by decide +kernel
theorem dX6_jam_44 : decode cX6_jam 44 = .ok (.iload_n 1, 1) := by decide +kernel
theorem dX6_jam_45 : decode cX6_jam 45 = .ok (.invokevirtual 81, 3) := by decide +kernel
theorem dX6_jam_48 : decode cX6_jam 48 = .ok (.aload_n 0, 1) := by decide +kernel
theorem dX6_jam_49 : decode cX6_jam 49 = .ok (.getfield 129, 3) := by decide +kernel
theorem dX6_jam_52 : decode cX6_jam 52 = .ok (.iload_n 2, 1) := by decide +kernel
theorem dX6_jam_53 : decode cX6_jam 53 = .ok (.iadd, 1) := by decide +kernel
theorem dX6_jam_54 : decode cX6_jam 54 = .ok (.invokestatic 132, 3) := by decide +kernel
theorem dX6_jam_57 : decode cX6_jam 57 = .ok (.istore_n 3, 1) := by decide +kernel
theorem dX6_jam_58 : decode cX6_jam 58 = .ok (.aload_n 0, 1) := by decide +kernel
theorem dX6_jam_59 : decode cX6_jam 59 = .ok (.getfield 26, 3) := by decide +kernel
theorem dX6_jam_62 : decode cX6_jam 62 = .ok (.getfield 126, 3) := by decide +kernel
theorem dX6_jam_65 : decode cX6_jam 65 = .ok (.iload_n 1, 1) := by decide +kernel
theorem dX6_jam_66 : decode cX6_jam 66 = .ok (.iload_n 3, 1) := by decide +kernel
theorem dX6_jam_67 : decode cX6_jam 67 = .ok (.invokevirtual 115, 3) := by decide +kernel
theorem dX6_jam_70 : decode cX6_jam 70 = .ok (.iload_n 3, 1) := by decide +kernel
theorem dX6_jam_71 : decode cX6_jam 71 = .ok (.ireturn, 1) := by decide +kernel
def pX6_jam (a1 : Int32) (a2 : Int32) (u : St) : Option (Nat × Int32 × St) := if (pX6_isBay a1) = 0 then (some (1, 0, u)) else (if (pX6_isWithin a2 1 50) = 0 then (some (2, 0, u)) else (some (0, if (rg u 10 a1) < ((u.2 0) + a2) then ((u.2 0) + a2) else (rg u 10 a1), rs u 10 a1 (if (rg u 10 a1) < ((u.2 0) + a2) then ((u.2 0) + a2) else (rg u 10 a1)))))
set_option maxHeartbeats 4000000 in
set_option maxRecDepth 20000 in
theorem kX6_jam {l : Launch} {D : va_G} {Y : Nat → ClassId} {q : Nat → Nat} {a1 a2 : Int32} {u u1 : St} {k : Nat} {r : Int32} (hX : pX6_jam a1 a2 u = some (k, r, u1)) (hl9 : l.stackTraces = false) : CMt false l yX6_jam cX6_jam 4 (some .int) 6 90 D Y (wC Y q u) (wC Y q u1) [.ref (q 0), .int a1, .int a2] k r := by
  refine cm_oft (by decide) (Nat.le_of_ble_eq_true rfl) rfl (fun p e s m args below meth c A F hr hlk hT hex => ?_)
  show GW p l e { frames := 6, cells := 1, slots := 6, locals := 90 } s m args below meth c D A 4 0 0 (QT false below args s D (wC Y q u1) A k r) (wC Y q u) 0 [(0, .ref (q 0)), (1, .int a1), (2, .int a2)] []
  have hX : ((if (pX6_isBay a1) = 0 then (some (1, 0, u)) else (if (pX6_isWithin a2 1 50) = 0 then (some (2, 0, u)) else (some (0, if (rg u 10 a1) < ((u.2 0) + a2) then ((u.2 0) + a2) else (rg u 10 a1), rs u 10 a1 (if (rg u 10 a1) < ((u.2 0) + a2) then ((u.2 0) + a2) else (rg u 10 a1)))))) : Option (Nat × Int32 × St)) = some (k, r, u1) := hX
  refine g_iload_n F dX6_jam_0 1 rfl rfl ?_
  refine callX6_isBay F ml_X6_105 ⟨Nat.le_of_ble_eq_true rfl, Nat.le_of_ble_eq_true rfl⟩ (Nat.le_of_ble_eq_true rfl) dX6_jam_1 ?_
  refine g_if_ne (tgt := 17) F dX6_jam_4 (by decide) (fun c1 => ?_) (fun c1 => ?_)
  · have hX := if_f hX c1
    refine g_iload_n F dX6_jam_17 2 rfl rfl ?_
    refine g_iconst (v := 1) F dX6_jam_18 (by decide) ?_
    refine g_bipush (v := 50) F dX6_jam_19 (by decide) ?_
    refine callX6_isWithin F ml_X6_96 ⟨Nat.le_of_ble_eq_true rfl, Nat.le_of_ble_eq_true rfl⟩ (Nat.le_of_ble_eq_true rfl) dX6_jam_21 ?_
    refine g_if_ne (tgt := 37) F dX6_jam_24 (by decide) (fun c2 => ?_) (fun c2 => ?_)
    · have hX := if_f hX c2
      refine g_aload_n F dX6_jam_37 0 rfl rfl ?_
      refine G_X6_26 F dX6_jam_38 ?_
      refine G_X6_126 F dX6_jam_41 ?_
      refine g_iload_n F dX6_jam_44 1 rfl rfl ?_
      refine C_rget F 10 (by decide) ml_X6_81 ⟨Nat.le_of_ble_eq_true rfl, Nat.le_of_ble_eq_true rfl⟩ (Nat.le_of_ble_eq_true rfl) dX6_jam_45 ?_
      refine g_aload_n F dX6_jam_48 0 rfl rfl ?_
      refine G_X6_129 F dX6_jam_49 ?_
      refine g_iload_n F dX6_jam_52 2 rfl rfl ?_
      refine g_iadd F dX6_jam_53 ?_
      refine g_max F ml_X6_132 (Nat.le_of_ble_eq_true rfl) (Nat.le_of_ble_eq_true rfl) (Nat.zero_le _) (Nat.zero_le _) dX6_jam_54 ?_
      refine g_istore_n (lv' := [(3, .int (if (rg u 10 a1) < ((u.2 0) + a2) then ((u.2 0) + a2) else (rg u 10 a1))), (0, .ref (q 0)), (1, .int a1), (2, .int a2)]) F dX6_jam_57 rfl (by decide) rfl ?_
      refine g_aload_n F dX6_jam_58 1 rfl rfl ?_
      refine G_X6_26 F dX6_jam_59 ?_
      refine G_X6_126 F dX6_jam_62 ?_
      refine g_iload_n F dX6_jam_65 2 rfl rfl ?_
      refine g_iload_n F dX6_jam_66 0 rfl rfl ?_
      refine C_rset F 10 (by decide) ml_X6_115 ⟨Nat.le_of_ble_eq_true rfl, Nat.le_of_ble_eq_true rfl⟩ (Nat.le_of_ble_eq_true rfl) dX6_jam_67 ?_
      refine g_iload_n F dX6_jam_70 0 rfl rfl ?_
      exact g_retT (wf := wC Y q) F hr rfl hlk dX6_jam_71 hX
    · have hX := if_t hX c2
      exact g_throwS F hl9 hT hex hlk (kc := 2) (is := 124) (text := "hours is out of range") cl_X6_100 in_IllegalArgumentException (List.mem_of_getElem? (i := 5) rfl) at_104 (by decide) (by decide +kernel) dX6_jam_27 dX6_jam_30 dX6_jam_31 dX6_jam_33 dX6_jam_36 ⟨Nat.le_of_ble_eq_true rfl, Nat.le_of_ble_eq_true rfl, Nat.le_refl _, Nat.le_refl _⟩ hX
  · have hX := if_t hX c1
    exact g_throwS F hl9 hT hex hlk (kc := 1) (is := 108) (text := "no such bay") cl_X6_67 in_IndexOutOfBoundsException (List.mem_of_getElem? (i := 3) rfl) at_71 (by decide) (by decide +kernel) dX6_jam_7 dX6_jam_10 dX6_jam_11 dX6_jam_13 dX6_jam_16 ⟨Nat.le_of_ble_eq_true rfl, Nat.le_of_ble_eq_true rfl, Nat.le_refl _, Nat.le_refl _⟩ hX
theorem dX6_crane_0 : decode cX6_crane 0 = .ok (.iload_n 1, 1) := by decide +kernel
theorem dX6_crane_1 : decode cX6_crane 1 = .ok (.invokestatic 138, 3) := by decide +kernel
theorem dX6_crane_4 : decode cX6_crane 4 = .ok (.ifCond .ne 13, 3) := by decide +kernel
theorem dX6_crane_7 : decode cX6_crane 7 = .ok (.new 67, 3) := by decide +kernel
theorem dX6_crane_10 : decode cX6_crane 10 = .ok (.dup, 1) := by decide +kernel
theorem dX6_crane_11 : decode cX6_crane 11 = .ok (.ldc 141, 2) := by decide +kernel
theorem dX6_crane_13 : decode cX6_crane 13 = .ok (.invokespecial 71, 3) := by decide +kernel
theorem dX6_crane_16 : decode cX6_crane 16 = .ok (.athrow, 1) := by decide +kernel
theorem dX6_crane_17 : decode cX6_crane 17 = .ok (.iload_n 2, 1) := by decide +kernel
theorem dX6_crane_18 : decode cX6_crane 18 = .ok (.invokestatic 105, 3) := by decide +kernel
theorem dX6_crane_21 : decode cX6_crane 21 = .ok (.ifCond .eq 15, 3) := by decide +kernel
theorem dX6_crane_24 : decode cX6_crane 24 = .ok (.iload_n 3, 1) := by decide +kernel
theorem dX6_crane_25 : decode cX6_crane 25 = .ok (.invokestatic 105, 3) := by decide +kernel
theorem dX6_crane_28 : decode cX6_crane 28 = .ok (.ifCond .eq 8, 3) := by decide +kernel
theorem dX6_crane_31 : decode cX6_crane 31 = .ok (.iload_n 2, 1) := by decide +kernel
theorem dX6_crane_32 : decode cX6_crane 32 = .ok (.iload_n 3, 1) := by decide +kernel
theorem dX6_crane_33 : decode cX6_crane 33 = .ok (.if_icmp .le 13, 3) := by decide +kernel
theorem dX6_crane_36 : decode cX6_crane 36 = .ok (.new 100, 3) := by decide +kernel
theorem dX6_crane_39 : decode cX6_crane 39 = .ok (.dup, 1) := by decide +kernel
theorem dX6_crane_40 : decode cX6_crane 40 = .ok (.ldc 143, 2) := by decide +kernel
theorem dX6_crane_42 : decode cX6_crane 42 = .ok (.invokespecial 104, 3) := by decide +kernel
theorem dX6_crane_45 : decode cX6_crane 45 = .ok (.athrow, 1) := by decide +kernel
theorem dX6_crane_46 : decode cX6_crane 46 = .ok (.iload 4, 2) := by decide +kernel
theorem dX6_crane_48 : decode cX6_crane 48 = .ok (.iconst 1, 1) := by decide +kernel
theorem dX6_crane_49 : decode cX6_crane 49 = .ok (.iconst 4, 1) := by decide +kernel
theorem dX6_crane_50 : decode cX6_crane 50 = .ok (.invokestatic 96, 3) := by decide +kernel
theorem dX6_crane_53 : decode cX6_crane 53 = .ok (.ifCond .ne 13, 3) := by decide +kernel
theorem dX6_crane_56 : decode cX6_crane 56 = .ok (.new 100, 3) := by decide +kernel
theorem dX6_crane_59 : decode cX6_crane 59 = .ok (.dup, 1) := by decide +kernel
theorem dX6_crane_60 : decode cX6_crane 60 = .ok (.ldc 145, 2) := by decide +kernel
theorem dX6_crane_62 : decode cX6_crane 62 = .ok (.invokespecial 104, 3) := by decide +kernel
theorem dX6_crane_65 : decode cX6_crane 65 = .ok (.athrow, 1) := by decide +kernel
theorem dX6_crane_66 : decode cX6_crane 66 = .ok (.aload_n 0, 1) := by decide +kernel
theorem dX6_crane_67 : decode cX6_crane 67 = .ok (.getfield 40, 3) := by decide +kernel
theorem dX6_crane_70 : decode cX6_crane 70 = .ok (.getfield 147, 3) := by decide +kernel
theorem dX6_crane_73 : decode cX6_crane 73 = .ok (.iload_n 1, 1) := by decide +kernel
theorem dX6_crane_74 : decode cX6_crane 74 = .ok (.iload_n 2, 1) := by decide +kernel
theorem dX6_crane_75 : decode cX6_crane 75 = .ok (.invokevirtual 115, 3) := by decide +kernel
theorem dX6_crane_78 : decode cX6_crane 78 = .ok (.aload_n 0, 1) := by decide +kernel
theorem dX6_crane_79 : decode cX6_crane 79 = .ok (.getfield 40, 3) := by decide +kernel
theorem dX6_crane_82 : decode cX6_crane 82 = .ok (.getfield 150, 3) := by decide +kernel
theorem dX6_crane_85 : decode cX6_crane 85 = .ok (.iload_n 1, 1) := by decide +kernel
theorem dX6_crane_86 : decode cX6_crane 86 = .ok (.iload_n 3, 1) := by decide +kernel
theorem dX6_crane_87 : decode cX6_crane 87 = .ok (.invokevirtual 115, 3) := by decide +kernel
theorem dX6_crane_90 : decode cX6_crane 90 = .ok (.aload_n 0, 1) := by decide +kernel
theorem dX6_crane_91 : decode cX6_crane 91 = .ok (.getfield 40, 3) := by decide +kernel
theorem dX6_crane_94 : decode cX6_crane 94 = .ok (.getfield 153, 3) := by decide +kernel
theorem dX6_crane_97 : decode cX6_crane 97 = .ok (.iload_n 1, 1) := by decide +kernel
theorem dX6_crane_98 : decode cX6_crane 98 = .ok (.iload 4, 2) := by decide +kernel
theorem dX6_crane_100 : decode cX6_crane 100 = .ok (.invokevirtual 115, 3) := by decide +kernel
theorem dX6_crane_103 : decode cX6_crane 103 = .ok (.return_, 1) := by decide +kernel
def pX6_crane_b36   (v : St) : Option (Nat × Int32 × St) := some (2, 0, v)
def pX6_crane (a1 : Int32) (a2 : Int32) (a3 : Int32) (a4 : Int32) (u : St) : Option (Nat × Int32 × St) := if (pX6_isCrane a1) = 0 then (some (1, 0, u)) else (if (pX6_isBay a2) = 0 then (pX6_crane_b36 u) else (if (pX6_isBay a3) = 0 then (pX6_crane_b36 u) else (if a2 ≤ a3 then (if (pX6_isWithin a4 1 4) = 0 then (some (2, 0, u)) else (some (0, 0, rs (rs (rs u 18 a1 a2) 19 a1 a3) 20 a1 a4))) else (pX6_crane_b36 u))))
set_option maxHeartbeats 4000000 in
set_option maxRecDepth 20000 in
theorem kX6_crane {l : Launch} {D : va_G} {Y : Nat → ClassId} {q : Nat → Nat} {a1 a2 a3 a4 : Int32} {u u1 : St} {k : Nat} {r : Int32} (hX : pX6_crane a1 a2 a3 a4 u = some (k, r, u1)) (hl9 : l.stackTraces = false) : CMt true l yX6_crane cX6_crane 5 none 6 90 D Y (wC Y q u) (wC Y q u1) [.ref (q 0), .int a1, .int a2, .int a3, .int a4] k r := by
  refine cm_oft (by decide) (Nat.le_of_ble_eq_true rfl) rfl (fun p e s m args below meth c A F hr hlk hT hex => ?_)
  show GW p l e { frames := 6, cells := 1, slots := 6, locals := 90 } s m args below meth c D A 5 0 0 (QT true below args s D (wC Y q u1) A k r) (wC Y q u) 0 [(0, .ref (q 0)), (1, .int a1), (2, .int a2), (3, .int a3), (4, .int a4)] []
  have b36 : ∀   (v : St), pX6_crane_b36  v = some (k, r, u1) → GW p l e { frames := 6, cells := 1, slots := 6, locals := 90 } s m args below meth c D A 5 0 0 (QT true below args s D (wC Y q u1) A k r) (wC Y q v) 36 [] [] := by
    intro  v hX
    have hX : ((some (2, 0, v)) : Option (Nat × Int32 × St)) = some (k, r, u1) := hX
    exact g_throwS F hl9 hT hex hlk (kc := 2) (is := 143) (text := "the reach is out of range") cl_X6_100 in_IllegalArgumentException (List.mem_of_getElem? (i := 7) rfl) at_104 (by decide) (by decide +kernel) dX6_crane_36 dX6_crane_39 dX6_crane_40 dX6_crane_42 dX6_crane_45 ⟨Nat.le_of_ble_eq_true rfl, Nat.le_of_ble_eq_true rfl, Nat.le_refl _, Nat.le_refl _⟩ hX
  have hX : ((if (pX6_isCrane a1) = 0 then (some (1, 0, u)) else (if (pX6_isBay a2) = 0 then (pX6_crane_b36 u) else (if (pX6_isBay a3) = 0 then (pX6_crane_b36 u) else (if a2 ≤ a3 then (if (pX6_isWithin a4 1 4) = 0 then (some (2, 0, u)) else (some (0, 0, rs (rs (rs u 18 a1 a2) 19 a1 a3) 20 a1 a4))) else (pX6_crane_b36 u))))) : Option (Nat × Int32 × St)) = some (k, r, u1) := hX
  refine g_iload_n F dX6_crane_0 1 rfl rfl ?_
  refine callX6_isCrane F ml_X6_138 ⟨Nat.le_of_ble_eq_true rfl, Nat.le_of_ble_eq_true rfl⟩ (Nat.le_of_ble_eq_true rfl) dX6_crane_1 ?_
  refine g_if_ne (tgt := 17) F dX6_crane_4 (by decide) (fun c1 => ?_) (fun c1 => ?_)
  · have hX := if_f hX c1
    refine g_iload_n F dX6_crane_17 2 rfl rfl ?_
    refine callX6_isBay F ml_X6_105 ⟨Nat.le_of_ble_eq_true rfl, Nat.le_of_ble_eq_true rfl⟩ (Nat.le_of_ble_eq_true rfl) dX6_crane_18 ?_
    refine g_if_eq (tgt := 36) F dX6_crane_21 (by decide) (fun c2 => ?_) (fun c2 => ?_)
    · have hX := if_t hX c2
      refine g_sub [] rfl ?_
      exact b36 u hX
    · have hX := if_f hX c2
      refine g_iload_n F dX6_crane_24 3 rfl rfl ?_
      refine callX6_isBay F ml_X6_105 ⟨Nat.le_of_ble_eq_true rfl, Nat.le_of_ble_eq_true rfl⟩ (Nat.le_of_ble_eq_true rfl) dX6_crane_25 ?_
      refine g_if_eq (tgt := 36) F dX6_crane_28 (by decide) (fun c3 => ?_) (fun c3 => ?_)
      · have hX := if_t hX c3
        refine g_sub [] rfl ?_
        exact b36 u hX
      · have hX := if_f hX c3
        refine g_iload_n F dX6_crane_31 2 rfl rfl ?_
        refine g_iload_n F dX6_crane_32 3 rfl rfl ?_
        refine g_icmp_le (tgt := 46) F dX6_crane_33 (by decide) (fun c4 => ?_) (fun c4 => ?_)
        · have hX := if_t hX c4
          refine g_iload F dX6_crane_46 4 rfl ?_
          refine g_iconst (v := 1) F dX6_crane_48 (by decide) ?_
          refine g_iconst (v := 4) F dX6_crane_49 (by decide) ?_
          refine callX6_isWithin F ml_X6_96 ⟨Nat.le_of_ble_eq_true rfl, Nat.le_of_ble_eq_true rfl⟩ (Nat.le_of_ble_eq_true rfl) dX6_crane_50 ?_
          refine g_if_ne (tgt := 66) F dX6_crane_53 (by decide) (fun c5 => ?_) (fun c5 => ?_)
          · have hX := if_f hX c5
            refine g_aload_n F dX6_crane_66 0 rfl rfl ?_
            refine G_X6_40 F dX6_crane_67 ?_
            refine G_X6_147 F dX6_crane_70 ?_
            refine g_iload_n F dX6_crane_73 1 rfl rfl ?_
            refine g_iload_n F dX6_crane_74 2 rfl rfl ?_
            refine C_rset F 18 (by decide) ml_X6_115 ⟨Nat.le_of_ble_eq_true rfl, Nat.le_of_ble_eq_true rfl⟩ (Nat.le_of_ble_eq_true rfl) dX6_crane_75 ?_
            refine g_aload_n F dX6_crane_78 0 rfl rfl ?_
            refine G_X6_40 F dX6_crane_79 ?_
            refine G_X6_150 F dX6_crane_82 ?_
            refine g_iload_n F dX6_crane_85 1 rfl rfl ?_
            refine g_iload_n F dX6_crane_86 3 rfl rfl ?_
            refine C_rset F 19 (by decide) ml_X6_115 ⟨Nat.le_of_ble_eq_true rfl, Nat.le_of_ble_eq_true rfl⟩ (Nat.le_of_ble_eq_true rfl) dX6_crane_87 ?_
            refine g_aload_n F dX6_crane_90 0 rfl rfl ?_
            refine G_X6_40 F dX6_crane_91 ?_
            refine G_X6_153 F dX6_crane_94 ?_
            refine g_iload_n F dX6_crane_97 1 rfl rfl ?_
            refine g_iload F dX6_crane_98 4 rfl ?_
            refine C_rset F 20 (by decide) ml_X6_115 ⟨Nat.le_of_ble_eq_true rfl, Nat.le_of_ble_eq_true rfl⟩ (Nat.le_of_ble_eq_true rfl) dX6_crane_100 ?_
            exact g_retTv (wf := wC Y q) F hr hlk dX6_crane_103 hX
          · have hX := if_t hX c5
            exact g_throwS F hl9 hT hex hlk (kc := 2) (is := 145) (text := "lifts is out of range") cl_X6_100 in_IllegalArgumentException (List.mem_of_getElem? (i := 8) rfl) at_104 (by decide) (by decide +kernel) dX6_crane_56 dX6_crane_59 dX6_crane_60 dX6_crane_62 dX6_crane_65 ⟨Nat.le_of_ble_eq_true rfl, Nat.le_of_ble_eq_true rfl, Nat.le_refl _, Nat.le_refl _⟩ hX
        · have hX := if_f hX c4
          refine g_sub [] rfl ?_
          exact b36 u hX
  · have hX := if_t hX c1
    exact g_throwS F hl9 hT hex hlk (kc := 1) (is := 141) (text := "no such crane") cl_X6_67 in_IndexOutOfBoundsException (List.mem_of_getElem? (i := 6) rfl) at_71 (by decide) (by decide +kernel) dX6_crane_7 dX6_crane_10 dX6_crane_11 dX6_crane_13 dX6_crane_16 ⟨Nat.le_of_ble_eq_true rfl, Nat.le_of_ble_eq_true rfl, Nat.le_refl _, Nat.le_refl _⟩ hX
theorem dX6_box_0 : decode cX6_box 0 = .ok (.iload_n 3, 1) := by decide +kernel
theorem dX6_box_1 : decode cX6_box 1 = .ok (.iconst 0, 1) := by decide +kernel
theorem dX6_box_2 : decode cX6_box 2 = .ok (.bipush 9, 2) := by decide +kernel
theorem dX6_box_4 : decode cX6_box 4 = .ok (.invokestatic 96, 3) := by decide +kernel
theorem dX6_box_7 : decode cX6_box 7 = .ok (.ifCond .ne 13, 3) := by decide +kernel
theorem dX6_box_10 : decode cX6_box 10 = .ok (.new 67, 3) := by decide +kernel
theorem dX6_box_13 : decode cX6_box 13 = .ok (.dup, 1) := by decide +kernel
theorem dX6_box_14 : decode cX6_box 14 = .ok (.ldc 156, 2) := by decide +kernel
theorem dX6_box_16 : decode cX6_box 16 = .ok (.invokespecial 71, 3) := by decide +kernel
theorem dX6_box_19 : decode cX6_box 19 = .ok (.athrow, 1) := by decide +kernel
theorem dX6_box_20 : decode cX6_box 20 = .ok (.iload 5, 2) := by decide +kernel
theorem dX6_box_22 : decode cX6_box 22 = .ok (.invokestatic 158, 3) := by decide +kernel
theorem dX6_box_25 : decode cX6_box 25 = .ok (.ifCond .ne 13, 3) := by decide +kernel
theorem dX6_box_28 : decode cX6_box 28 = .ok (.new 67, 3) := by decide +kernel
theorem dX6_box_31 : decode cX6_box 31 = .ok (.dup, 1) := by decide +kernel
theorem dX6_box_32 : decode cX6_box 32 = .ok (.ldc 161, 2) := by decide +kernel
theorem dX6_box_34 : decode cX6_box 34 = .ok (.invokespecial 71, 3) := by decide +kernel
theorem dX6_box_37 : decode cX6_box 37 = .ok (.athrow, 1) := by decide +kernel
theorem dX6_box_38 : decode cX6_box 38 = .ok (.iload_n 1, 1) := by decide +kernel
theorem dX6_box_39 : decode cX6_box 39 = .ok (.iconst 1, 1) := by decide +kernel
theorem dX6_box_40 : decode cX6_box 40 = .ok (.bipush 40, 2) := by decide +kernel
theorem dX6_box_42 : decode cX6_box 42 = .ok (.invokestatic 96, 3) := by decide +kernel
theorem dX6_box_45 : decode cX6_box 45 = .ok (.ifCond .ne 13, 3) := by decide +kernel
theorem dX6_box_48 : decode cX6_box 48 = .ok (.new 100, 3) := by decide +kernel
theorem dX6_box_51 : decode cX6_box 51 = .ok (.dup, 1) := by decide +kernel
theorem dX6_box_52 : decode cX6_box 52 = .ok (.ldc 163, 2) := by decide +kernel
theorem dX6_box_54 : decode cX6_box 54 = .ok (.invokespecial 104, 3) := by decide +kernel
theorem dX6_box_57 : decode cX6_box 57 = .ok (.athrow, 1) := by decide +kernel
theorem dX6_box_58 : decode cX6_box 58 = .ok (.iload_n 2, 1) := by decide +kernel
theorem dX6_box_59 : decode cX6_box 59 = .ok (.iconst 1, 1) := by decide +kernel
theorem dX6_box_60 : decode cX6_box 60 = .ok (.bipush 40, 2) := by decide +kernel
theorem dX6_box_62 : decode cX6_box 62 = .ok (.invokestatic 96, 3) := by decide +kernel
theorem dX6_box_65 : decode cX6_box 65 = .ok (.ifCond .ne 13, 3) := by decide +kernel
theorem dX6_box_68 : decode cX6_box 68 = .ok (.new 100, 3) := by decide +kernel
theorem dX6_box_71 : decode cX6_box 71 = .ok (.dup, 1) := by decide +kernel
theorem dX6_box_72 : decode cX6_box 72 = .ok (.ldc 165, 2) := by decide +kernel
theorem dX6_box_74 : decode cX6_box 74 = .ok (.invokespecial 104, 3) := by decide +kernel
theorem dX6_box_77 : decode cX6_box 77 = .ok (.athrow, 1) := by decide +kernel
theorem dX6_box_78 : decode cX6_box 78 = .ok (.iload 4, 2) := by decide +kernel
theorem dX6_box_80 : decode cX6_box 80 = .ok (.iconst 0, 1) := by decide +kernel
theorem dX6_box_81 : decode cX6_box 81 = .ok (.iconst 4, 1) := by decide +kernel
theorem dX6_box_82 : decode cX6_box 82 = .ok (.invokestatic 96, 3) := by decide +kernel
theorem dX6_box_85 : decode cX6_box 85 = .ok (.ifCond .ne 13, 3) := by decide +kernel
theorem dX6_box_88 : decode cX6_box 88 = .ok (.new 100, 3) := by decide +kernel
theorem dX6_box_91 : decode cX6_box 91 = .ok (.dup, 1) := by decide +kernel
theorem dX6_box_92 : decode cX6_box 92 = .ok (.ldc 167, 2) := by decide +kernel
theorem dX6_box_94 : decode cX6_box 94 = .ok (.invokespecial 104, 3) := by decide +kernel
theorem dX6_box_97 : decode cX6_box 97 = .ok (.athrow, 1) := by decide +kernel
theorem dX6_box_98 : decode cX6_box 98 = .ok (.aload_n 0, 1) := by decide +kernel
theorem dX6_box_99 : decode cX6_box 99 = .ok (.getfield 10, 3) := by decide +kernel
theorem dX6_box_102 : decode cX6_box 102 = .ok (.getfield 169, 3) := by decide +kernel
theorem dX6_box_105 : decode cX6_box 105 = .ok (.bipush 60, 2) := by decide +kernel
theorem dX6_box_107 : decode cX6_box 107 = .ok (.if_icmp .lt 13, 3) := by decide +kernel
theorem dX6_box_110 : decode cX6_box 110 = .ok (.new 84, 3) := by decide +kernel
theorem dX6_box_113 : decode cX6_box 113 = .ok (.dup, 1) := by decide +kernel
theorem dX6_box_114 : decode cX6_box 114 = .ok (.ldc 172, 2) := by decide +kernel
theorem dX6_box_116 : decode cX6_box 116 = .ok (.invokespecial 88, 3) := by decide +kernel
theorem dX6_box_119 : decode cX6_box 119 = .ok (.athrow, 1) := by decide +kernel
theorem dX6_box_120 : decode cX6_box 120 = .ok (.aload_n 0, 1) := by decide +kernel
theorem dX6_box_121 : decode cX6_box 121 = .ok (.iload_n 1, 1) := by decide +kernel
theorem dX6_box_122 : decode cX6_box 122 = .ok (.iload 5, 2) := by decide +kernel
theorem dX6_box_124 : decode cX6_box 124 = .ok (.invokevirtual 174, 3) := by decide +kernel
theorem dX6_box_127 : decode cX6_box 127 = .ok (.ifCond .ne 13, 3) := by decide +kernel
theorem dX6_box_130 : decode cX6_box 130 = .ok (.new 84, 3) := by decide +kernel
theorem dX6_box_133 : decode cX6_box 133 = .ok (.dup, 1) := by decide +kernel
theorem dX6_box_134 : decode cX6_box 134 = .ok (.ldc 178, 2) := by decide +kernel
theorem dX6_box_136 : decode cX6_box 136 = .ok (.invokespecial 88, 3) := by decide +kernel
theorem dX6_box_139 : decode cX6_box 139 = .ok (.athrow, 1) := by decide +kernel
theorem dX6_box_140 : decode cX6_box 140 = .ok (.aload_n 0, 1) := by decide +kernel
theorem dX6_box_141 : decode cX6_box 141 = .ok (.getfield 10, 3) := by decide +kernel
theorem dX6_box_144 : decode cX6_box 144 = .ok (.iload_n 1, 1) := by decide +kernel
theorem dX6_box_145 : decode cX6_box 145 = .ok (.iload_n 2, 1) := by decide +kernel
theorem dX6_box_146 : decode cX6_box 146 = .ok (.iload_n 3, 1) := by decide +kernel
theorem dX6_box_147 : decode cX6_box 147 = .ok (.iload 4, 2) := by decide +kernel
theorem dX6_box_149 : decode cX6_box 149 = .ok (.invokevirtual 180, 3) := by decide +kernel
theorem dX6_box_152 : decode cX6_box 152 = .ok (.istore 6, 2) := by decide +kernel
theorem dX6_box_154 : decode cX6_box 154 = .ok (.aload_n 0, 1) := by decide +kernel
theorem dX6_box_155 : decode cX6_box 155 = .ok (.iload 6, 2) := by decide +kernel
theorem dX6_box_157 : decode cX6_box 157 = .ok (.iload 5, 2) := by decide +kernel
theorem dX6_box_159 : decode cX6_box 159 = .ok (.invokevirtual 184, 3) := by decide +kernel
theorem dX6_box_162 : decode cX6_box 162 = .ok (.iload 6, 2) := by decide +kernel
theorem dX6_box_164 : decode cX6_box 164 = .ok (.ireturn, 1) := by decide +kernel
def pX6_box (a1 : Int32) (a2 : Int32) (a3 : Int32) (a4 : Int32) (a5 : Int32) (u : St) : Option (Nat × Int32 × St) := if (pX6_isWithin a3 0 9) = 0 then (some (1, 0, u)) else (if (pX6_isStack a5) = 0 then (some (1, 0, u)) else (if (pX6_isWithin a1 1 40) = 0 then (some (2, 0, u)) else (if (pX6_isWithin a2 1 40) = 0 then (some (2, 0, u)) else (if (pX6_isWithin a4 0 4) = 0 then (some (2, 0, u)) else (if (u.2 6) < 60 then (bnd (pX6_mayBeStacked a1 a5 u) (fun r7 w8 => if r7 = 0 then (some (3, 0, w8)) else (bnd (pX0_come a1 a2 a3 a4 w8) (fun r11 w12 => bnd (pX6_putInYard r11 a5 w12) (fun r14 w15 => some (0, r11, w15)))))) else (some (3, 0, u)))))))
set_option maxHeartbeats 4000000 in
set_option maxRecDepth 20000 in
theorem kX6_box {l : Launch} {D : va_G} {Y : Nat → ClassId} {q : Nat → Nat} {a1 a2 a3 a4 a5 : Int32} {u u1 : St} {k : Nat} {r : Int32} (hX : pX6_box a1 a2 a3 a4 a5 u = some (k, r, u1)) (hl9 : l.stackTraces = false) : CMt false l yX6_box cX6_box 7 (some .int) 6 90 D Y (wC Y q u) (wC Y q u1) [.ref (q 0), .int a1, .int a2, .int a3, .int a4, .int a5] k r := by
  refine cm_oft (by decide) (Nat.le_of_ble_eq_true rfl) rfl (fun p e s m args below meth c A F hr hlk hT hex => ?_)
  show GW p l e { frames := 6, cells := 1, slots := 6, locals := 90 } s m args below meth c D A 7 0 0 (QT false below args s D (wC Y q u1) A k r) (wC Y q u) 0 [(0, .ref (q 0)), (1, .int a1), (2, .int a2), (3, .int a3), (4, .int a4), (5, .int a5)] []
  have hX : ((if (pX6_isWithin a3 0 9) = 0 then (some (1, 0, u)) else (if (pX6_isStack a5) = 0 then (some (1, 0, u)) else (if (pX6_isWithin a1 1 40) = 0 then (some (2, 0, u)) else (if (pX6_isWithin a2 1 40) = 0 then (some (2, 0, u)) else (if (pX6_isWithin a4 0 4) = 0 then (some (2, 0, u)) else (if (u.2 6) < 60 then (bnd (pX6_mayBeStacked a1 a5 u) (fun r7 w8 => if r7 = 0 then (some (3, 0, w8)) else (bnd (pX0_come a1 a2 a3 a4 w8) (fun r11 w12 => bnd (pX6_putInYard r11 a5 w12) (fun r14 w15 => some (0, r11, w15)))))) else (some (3, 0, u)))))))) : Option (Nat × Int32 × St)) = some (k, r, u1) := hX
  refine g_iload_n F dX6_box_0 3 rfl rfl ?_
  refine g_iconst (v := 0) F dX6_box_1 (by decide) ?_
  refine g_bipush (v := 9) F dX6_box_2 (by decide) ?_
  refine callX6_isWithin F ml_X6_96 ⟨Nat.le_of_ble_eq_true rfl, Nat.le_of_ble_eq_true rfl⟩ (Nat.le_of_ble_eq_true rfl) dX6_box_4 ?_
  refine g_if_ne (tgt := 20) F dX6_box_7 (by decide) (fun c1 => ?_) (fun c1 => ?_)
  · have hX := if_f hX c1
    refine g_iload F dX6_box_20 5 rfl ?_
    refine callX6_isStack F ml_X6_158 ⟨Nat.le_of_ble_eq_true rfl, Nat.le_of_ble_eq_true rfl⟩ (Nat.le_of_ble_eq_true rfl) dX6_box_22 ?_
    refine g_if_ne (tgt := 38) F dX6_box_25 (by decide) (fun c2 => ?_) (fun c2 => ?_)
    · have hX := if_f hX c2
      refine g_iload_n F dX6_box_38 1 rfl rfl ?_
      refine g_iconst (v := 1) F dX6_box_39 (by decide) ?_
      refine g_bipush (v := 40) F dX6_box_40 (by decide) ?_
      refine callX6_isWithin F ml_X6_96 ⟨Nat.le_of_ble_eq_true rfl, Nat.le_of_ble_eq_true rfl⟩ (Nat.le_of_ble_eq_true rfl) dX6_box_42 ?_
      refine g_if_ne (tgt := 58) F dX6_box_45 (by decide) (fun c3 => ?_) (fun c3 => ?_)
      · have hX := if_f hX c3
        refine g_iload_n F dX6_box_58 2 rfl rfl ?_
        refine g_iconst (v := 1) F dX6_box_59 (by decide) ?_
        refine g_bipush (v := 40) F dX6_box_60 (by decide) ?_
        refine callX6_isWithin F ml_X6_96 ⟨Nat.le_of_ble_eq_true rfl, Nat.le_of_ble_eq_true rfl⟩ (Nat.le_of_ble_eq_true rfl) dX6_box_62 ?_
        refine g_if_ne (tgt := 78) F dX6_box_65 (by decide) (fun c4 => ?_) (fun c4 => ?_)
        · have hX := if_f hX c4
          refine g_iload F dX6_box_78 4 rfl ?_
          refine g_iconst (v := 0) F dX6_box_80 (by decide) ?_
          refine g_iconst (v := 4) F dX6_box_81 (by decide) ?_
          refine callX6_isWithin F ml_X6_96 ⟨Nat.le_of_ble_eq_true rfl, Nat.le_of_ble_eq_true rfl⟩ (Nat.le_of_ble_eq_true rfl) dX6_box_82 ?_
          refine g_if_ne (tgt := 98) F dX6_box_85 (by decide) (fun c5 => ?_) (fun c5 => ?_)
          · have hX := if_f hX c5
            refine g_aload_n F dX6_box_98 0 rfl rfl ?_
            refine G_X6_10 F dX6_box_99 ?_
            refine G_X6_169 F dX6_box_102 ?_
            refine g_bipush (v := 60) F dX6_box_105 (by decide) ?_
            refine g_icmp_lt (tgt := 120) F dX6_box_107 (by decide) (fun c6 => ?_) (fun c6 => ?_)
            · have hX := if_t hX c6
              refine g_aload_n F dX6_box_120 0 rfl rfl ?_
              refine g_iload_n F dX6_box_121 1 rfl rfl ?_
              refine g_iload F dX6_box_122 5 rfl ?_
              obtain ⟨r7, w8, hc9, hX⟩ := bnd_s hX
              refine callX6_mayBeStacked F hc9 ml_X6_174 ⟨Nat.le_of_ble_eq_true rfl, Nat.le_of_ble_eq_true rfl⟩ (Nat.le_of_ble_eq_true rfl) dX6_box_124 ?_
              refine g_if_ne (tgt := 140) F dX6_box_127 (by decide) (fun c10 => ?_) (fun c10 => ?_)
              · have hX := if_f hX c10
                refine g_aload_n F dX6_box_140 0 rfl rfl ?_
                refine G_X6_10 F dX6_box_141 ?_
                refine g_iload_n F dX6_box_144 1 rfl rfl ?_
                refine g_iload_n F dX6_box_145 2 rfl rfl ?_
                refine g_iload_n F dX6_box_146 3 rfl rfl ?_
                refine g_iload F dX6_box_147 4 rfl ?_
                obtain ⟨r11, w12, hc13, hX⟩ := bnd_s hX
                refine callX0_come F hc13 ml_X6_180 ⟨Nat.le_of_ble_eq_true rfl, Nat.le_of_ble_eq_true rfl⟩ (Nat.le_of_ble_eq_true rfl) dX6_box_149 ?_
                refine g_istore (lv' := [(6, .int r11), (0, .ref (q 0)), (1, .int a1), (2, .int a2), (3, .int a3), (4, .int a4), (5, .int a5)]) F dX6_box_152 (by decide) rfl ?_
                refine g_aload_n F dX6_box_154 1 rfl rfl ?_
                refine g_iload F dX6_box_155 0 rfl ?_
                refine g_iload F dX6_box_157 6 rfl ?_
                obtain ⟨r14, w15, hc16, hX⟩ := bnd_s hX
                refine callX6_putInYard F hc16 ml_X6_184 ⟨Nat.le_of_ble_eq_true rfl, Nat.le_of_ble_eq_true rfl⟩ (Nat.le_of_ble_eq_true rfl) dX6_box_159 ?_
                refine g_iload F dX6_box_162 0 rfl ?_
                exact g_retT (wf := wC Y q) F hr rfl hlk dX6_box_164 hX
              · have hX := if_t hX c10
                exact g_throwS F hl9 hT hex hlk (kc := 3) (is := 178) (text := "the stack may not have it") cl_X6_84 in_IllegalStateException (List.mem_of_getElem? (i := 15) rfl) at_88 (by decide) (by decide +kernel) dX6_box_130 dX6_box_133 dX6_box_134 dX6_box_136 dX6_box_139 ⟨Nat.le_of_ble_eq_true rfl, Nat.le_of_ble_eq_true rfl, Nat.le_refl _, Nat.le_refl _⟩ hX
            · have hX := if_f hX c6
              exact g_throwS F hl9 hT hex hlk (kc := 3) (is := 172) (text := "there were 60 boxes") cl_X6_84 in_IllegalStateException (List.mem_of_getElem? (i := 14) rfl) at_88 (by decide) (by decide +kernel) dX6_box_110 dX6_box_113 dX6_box_114 dX6_box_116 dX6_box_119 ⟨Nat.le_of_ble_eq_true rfl, Nat.le_of_ble_eq_true rfl, Nat.le_refl _, Nat.le_refl _⟩ hX
          · have hX := if_t hX c5
            exact g_throwS F hl9 hT hex hlk (kc := 2) (is := 167) (text := "kind is out of range") cl_X6_100 in_IllegalArgumentException (List.mem_of_getElem? (i := 13) rfl) at_104 (by decide) (by decide +kernel) dX6_box_88 dX6_box_91 dX6_box_92 dX6_box_94 dX6_box_97 ⟨Nat.le_of_ble_eq_true rfl, Nat.le_of_ble_eq_true rfl, Nat.le_refl _, Nat.le_refl _⟩ hX
        · have hX := if_t hX c4
          exact g_throwS F hl9 hT hex hlk (kc := 2) (is := 165) (text := "truth is out of range") cl_X6_100 in_IllegalArgumentException (List.mem_of_getElem? (i := 12) rfl) at_104 (by decide) (by decide +kernel) dX6_box_68 dX6_box_71 dX6_box_72 dX6_box_74 dX6_box_77 ⟨Nat.le_of_ble_eq_true rfl, Nat.le_of_ble_eq_true rfl, Nat.le_refl _, Nat.le_refl _⟩ hX
      · have hX := if_t hX c3
        exact g_throwS F hl9 hT hex hlk (kc := 2) (is := 163) (text := "weight is out of range") cl_X6_100 in_IllegalArgumentException (List.mem_of_getElem? (i := 11) rfl) at_104 (by decide) (by decide +kernel) dX6_box_48 dX6_box_51 dX6_box_52 dX6_box_54 dX6_box_57 ⟨Nat.le_of_ble_eq_true rfl, Nat.le_of_ble_eq_true rfl, Nat.le_refl _, Nat.le_refl _⟩ hX
    · have hX := if_t hX c2
      exact g_throwS F hl9 hT hex hlk (kc := 1) (is := 161) (text := "no such stack") cl_X6_67 in_IndexOutOfBoundsException (List.mem_of_getElem? (i := 10) rfl) at_71 (by decide) (by decide +kernel) dX6_box_28 dX6_box_31 dX6_box_32 dX6_box_34 dX6_box_37 ⟨Nat.le_of_ble_eq_true rfl, Nat.le_of_ble_eq_true rfl, Nat.le_refl _, Nat.le_refl _⟩ hX
  · have hX := if_t hX c1
    exact g_throwS F hl9 hT hex hlk (kc := 1) (is := 156) (text := "no such port") cl_X6_67 in_IndexOutOfBoundsException (List.mem_of_getElem? (i := 9) rfl) at_71 (by decide) (by decide +kernel) dX6_box_10 dX6_box_13 dX6_box_14 dX6_box_16 dX6_box_19 ⟨Nat.le_of_ble_eq_true rfl, Nat.le_of_ble_eq_true rfl, Nat.le_refl _, Nat.le_refl _⟩ hX
theorem dX6_paper_0 : decode cX6_paper 0 = .ok (.aload_n 0, 1) := by decide +kernel
theorem dX6_paper_1 : decode cX6_paper 1 = .ok (.iload_n 1, 1) := by decide +kernel
theorem dX6_paper_2 : decode cX6_paper 2 = .ok (.invokevirtual 187, 3) := by decide +kernel
theorem dX6_paper_5 : decode cX6_paper 5 = .ok (.ifCond .ne 13, 3) := by decide +kernel
theorem dX6_paper_8 : decode cX6_paper 8 = .ok (.new 67, 3) := by decide +kernel
theorem dX6_paper_11 : decode cX6_paper 11 = .ok (.dup, 1) := by decide +kernel
theorem dX6_paper_12 : decode cX6_paper 12 = .ok (.ldc 190, 2) := by decide +kernel
theorem dX6_paper_14 : decode cX6_paper 14 = .ok (.invokespecial 71, 3) := by decide +kernel
theorem dX6_paper_17 : decode cX6_paper 17 = .ok (.athrow, 1) := by decide +kernel
theorem dX6_paper_18 : decode cX6_paper 18 = .ok (.iload_n 2, 1) := by decide +kernel
theorem dX6_paper_19 : decode cX6_paper 19 = .ok (.iconst 0, 1) := by decide +kernel
theorem dX6_paper_20 : decode cX6_paper 20 = .ok (.iconst 2, 1) := by decide +kernel
theorem dX6_paper_21 : decode cX6_paper 21 = .ok (.invokestatic 96, 3) := by decide +kernel
theorem dX6_paper_24 : decode cX6_paper 24 = .ok (.ifCond .ne 13, 3) := by decide +kernel
theorem dX6_paper_27 : decode cX6_paper 27 = .ok (.new 67, 3) := by decide +kernel
theorem dX6_paper_30 : decode cX6_paper 30 = .ok (.dup, 1) := by decide +kernel
theorem dX6_paper_31 : decode cX6_paper 31 = .ok (.ldc 192, 2) := by decide +kernel
theorem dX6_paper_33 : decode cX6_paper 33 = .ok (.invokespecial 71, 3) := by decide +kernel
theorem dX6_paper_36 : decode cX6_paper 36 = .ok (.athrow, 1) := by decide +kernel
theorem dX6_paper_37 : decode cX6_paper 37 = .ok (.aload_n 0, 1) := by decide +kernel
theorem dX6_paper_38 : decode cX6_paper 38 = .ok (.getfield 10, 3) := by decide +kernel
theorem dX6_paper_41 : decode cX6_paper 41 = .ok (.getfield 194, 3) := by decide +kernel
theorem dX6_paper_44 : decode cX6_paper 44 = .ok (.iload_n 1, 1) := by decide +kernel
theorem dX6_paper_45 : decode cX6_paper 45 = .ok (.aload_n 0, 1) := by decide +kernel
theorem dX6_paper_46 : decode cX6_paper 46 = .ok (.getfield 10, 3) := by decide +kernel
theorem dX6_paper_49 : decode cX6_paper 49 = .ok (.getfield 194, 3) := by decide +kernel
theorem dX6_paper_52 : decode cX6_paper 52 = .ok (.iload_n 1, 1) := by decide +kernel
theorem dX6_paper_53 : decode cX6_paper 53 = .ok (.invokevirtual 81, 3) := by decide +kernel
theorem dX6_paper_56 : decode cX6_paper 56 = .ok (.iconst 1, 1) := by decide +kernel
theorem dX6_paper_57 : decode cX6_paper 57 = .ok (.iload_n 2, 1) := by decide +kernel
theorem dX6_paper_58 : decode cX6_paper 58 = .ok (.ishl, 1) := by decide +kernel
theorem dX6_paper_59 : decode cX6_paper 59 = .ok (.ixor, 1) := by decide +kernel
theorem dX6_paper_60 : decode cX6_paper 60 = .ok (.invokevirtual 115, 3) := by decide +kernel
theorem dX6_paper_63 : decode cX6_paper 63 = .ok (.aload_n 0, 1) := by decide +kernel
theorem dX6_paper_64 : decode cX6_paper 64 = .ok (.getfield 10, 3) := by decide +kernel
theorem dX6_paper_67 : decode cX6_paper 67 = .ok (.iload_n 1, 1) := by decide +kernel
theorem dX6_paper_68 : decode cX6_paper 68 = .ok (.invokevirtual 197, 3) := by decide +kernel
theorem dX6_paper_71 : decode cX6_paper 71 = .ok (.ireturn, 1) := by decide +kernel
def pX6_paper (a1 : Int32) (a2 : Int32) (u : St) : Option (Nat × Int32 × St) := bnd (pX6_isBox a1 u) (fun r1 w2 => if r1 = 0 then (some (1, 0, w2)) else (if (pX6_isWithin a2 0 2) = 0 then (some (1, 0, w2)) else (bnd (pX0_isHeld a1 (rs w2 4 a1 ((rg w2 4 a1) ^^^ (1 <<< (a2 &&& 31))))) (fun r6 w7 => if r6 = 0 ∨ r6 = 1 then some (0, r6, w7) else none))))
set_option maxHeartbeats 4000000 in
set_option maxRecDepth 20000 in
theorem kX6_paper {l : Launch} {D : va_G} {Y : Nat → ClassId} {q : Nat → Nat} {a1 a2 : Int32} {u u1 : St} {k : Nat} {r : Int32} (hX : pX6_paper a1 a2 u = some (k, r, u1)) (hl9 : l.stackTraces = false) : CMt false l yX6_paper cX6_paper 3 (some .boolean) 6 90 D Y (wC Y q u) (wC Y q u1) [.ref (q 0), .int a1, .int a2] k r := by
  refine cm_oft (by decide) (Nat.le_of_ble_eq_true rfl) rfl (fun p e s m args below meth c A F hr hlk hT hex => ?_)
  show GW p l e { frames := 6, cells := 1, slots := 6, locals := 90 } s m args below meth c D A 3 0 0 (QT false below args s D (wC Y q u1) A k r) (wC Y q u) 0 [(0, .ref (q 0)), (1, .int a1), (2, .int a2)] []
  have hX : ((bnd (pX6_isBox a1 u) (fun r1 w2 => if r1 = 0 then (some (1, 0, w2)) else (if (pX6_isWithin a2 0 2) = 0 then (some (1, 0, w2)) else (bnd (pX0_isHeld a1 (rs w2 4 a1 ((rg w2 4 a1) ^^^ (1 <<< (a2 &&& 31))))) (fun r6 w7 => if r6 = 0 ∨ r6 = 1 then some (0, r6, w7) else none))))) : Option (Nat × Int32 × St)) = some (k, r, u1) := hX
  refine g_aload_n F dX6_paper_0 0 rfl rfl ?_
  refine g_iload_n F dX6_paper_1 1 rfl rfl ?_
  obtain ⟨r1, w2, hc3, hX⟩ := bnd_s hX
  refine callX6_isBox F hc3 ml_X6_187 ⟨Nat.le_of_ble_eq_true rfl, Nat.le_of_ble_eq_true rfl⟩ (Nat.le_of_ble_eq_true rfl) dX6_paper_2 ?_
  refine g_if_ne (tgt := 18) F dX6_paper_5 (by decide) (fun c4 => ?_) (fun c4 => ?_)
  · have hX := if_f hX c4
    refine g_iload_n F dX6_paper_18 2 rfl rfl ?_
    refine g_iconst (v := 0) F dX6_paper_19 (by decide) ?_
    refine g_iconst (v := 2) F dX6_paper_20 (by decide) ?_
    refine callX6_isWithin F ml_X6_96 ⟨Nat.le_of_ble_eq_true rfl, Nat.le_of_ble_eq_true rfl⟩ (Nat.le_of_ble_eq_true rfl) dX6_paper_21 ?_
    refine g_if_ne (tgt := 37) F dX6_paper_24 (by decide) (fun c5 => ?_) (fun c5 => ?_)
    · have hX := if_f hX c5
      refine g_aload_n F dX6_paper_37 0 rfl rfl ?_
      refine G_X6_10 F dX6_paper_38 ?_
      refine G_X6_194 F dX6_paper_41 ?_
      refine g_iload_n F dX6_paper_44 1 rfl rfl ?_
      refine g_aload_n F dX6_paper_45 0 rfl rfl ?_
      refine G_X6_10 F dX6_paper_46 ?_
      refine G_X6_194 F dX6_paper_49 ?_
      refine g_iload_n F dX6_paper_52 1 rfl rfl ?_
      refine C_rget F 4 (by decide) ml_X6_81 ⟨Nat.le_of_ble_eq_true rfl, Nat.le_of_ble_eq_true rfl⟩ (Nat.le_of_ble_eq_true rfl) dX6_paper_53 ?_
      refine g_iconst (v := 1) F dX6_paper_56 (by decide) ?_
      refine g_iload_n F dX6_paper_57 2 rfl rfl ?_
      refine g_ishl F dX6_paper_58 ?_
      refine g_ixor F dX6_paper_59 ?_
      refine C_rset F 4 (by decide) ml_X6_115 ⟨Nat.le_of_ble_eq_true rfl, Nat.le_of_ble_eq_true rfl⟩ (Nat.le_of_ble_eq_true rfl) dX6_paper_60 ?_
      refine g_aload_n F dX6_paper_63 0 rfl rfl ?_
      refine G_X6_10 F dX6_paper_64 ?_
      refine g_iload_n F dX6_paper_67 1 rfl rfl ?_
      obtain ⟨r6, w7, hc8, hX⟩ := bnd_s hX
      refine callX0_isHeld F hc8 ml_X6_197 ⟨Nat.le_of_ble_eq_true rfl, Nat.le_of_ble_eq_true rfl⟩ (Nat.le_of_ble_eq_true rfl) dX6_paper_68 ?_
      exact g_retTb (wf := wC Y q) F hr hlk dX6_paper_71 hX
    · have hX := if_t hX c5
      exact g_throwS F hl9 hT hex hlk (kc := 1) (is := 192) (text := "no such paper") cl_X6_67 in_IndexOutOfBoundsException (List.mem_of_getElem? (i := 17) rfl) at_71 (by decide) (by decide +kernel) dX6_paper_27 dX6_paper_30 dX6_paper_31 dX6_paper_33 dX6_paper_36 ⟨Nat.le_of_ble_eq_true rfl, Nat.le_of_ble_eq_true rfl, Nat.le_refl _, Nat.le_refl _⟩ hX
  · have hX := if_t hX c4
    exact g_throwS F hl9 hT hex hlk (kc := 1) (is := 190) (text := "no such box") cl_X6_67 in_IndexOutOfBoundsException (List.mem_of_getElem? (i := 16) rfl) at_71 (by decide) (by decide +kernel) dX6_paper_8 dX6_paper_11 dX6_paper_12 dX6_paper_14 dX6_paper_17 ⟨Nat.le_of_ble_eq_true rfl, Nat.le_of_ble_eq_true rfl, Nat.le_refl _, Nat.le_refl _⟩ hX
theorem dX6_skip_0 : decode cX6_skip 0 = .ok (.iload_n 1, 1) := by decide +kernel
theorem dX6_skip_1 : decode cX6_skip 1 = .ok (.iconst 1, 1) := by decide +kernel
theorem dX6_skip_2 : decode cX6_skip 2 = .ok (.bipush 8, 2) := by decide +kernel
theorem dX6_skip_4 : decode cX6_skip 4 = .ok (.invokestatic 96, 3) := by decide +kernel
theorem dX6_skip_7 : decode cX6_skip 7 = .ok (.ifCond .ne 13, 3) := by decide +kernel
theorem dX6_skip_10 : decode cX6_skip 10 = .ok (.new 67, 3) := by decide +kernel
theorem dX6_skip_13 : decode cX6_skip 13 = .ok (.dup, 1) := by decide +kernel
theorem dX6_skip_14 : decode cX6_skip 14 = .ok (.ldc 200, 2) := by decide +kernel
theorem dX6_skip_16 : decode cX6_skip 16 = .ok (.invokespecial 71, 3) := by decide +kernel
theorem dX6_skip_19 : decode cX6_skip 19 = .ok (.athrow, 1) := by decide +kernel
theorem dX6_skip_20 : decode cX6_skip 20 = .ok (.aload_n 0, 1) := by decide +kernel
theorem dX6_skip_21 : decode cX6_skip 21 = .ok (.iload_n 1, 1) := by decide +kernel
theorem dX6_skip_22 : decode cX6_skip 22 = .ok (.invokevirtual 202, 3) := by decide +kernel
theorem dX6_skip_25 : decode cX6_skip 25 = .ok (.ifCond .ne 13, 3) := by decide +kernel
theorem dX6_skip_28 : decode cX6_skip 28 = .ok (.new 84, 3) := by decide +kernel
theorem dX6_skip_31 : decode cX6_skip 31 = .ok (.dup, 1) := by decide +kernel
theorem dX6_skip_32 : decode cX6_skip 32 = .ok (.ldc 205, 2) := by decide +kernel
theorem dX6_skip_34 : decode cX6_skip 34 = .ok (.invokespecial 88, 3) := by decide +kernel
theorem dX6_skip_37 : decode cX6_skip 37 = .ok (.athrow, 1) := by decide +kernel
theorem dX6_skip_38 : decode cX6_skip 38 = .ok (.aload_n 0, 1) := by decide +kernel
theorem dX6_skip_39 : decode cX6_skip 39 = .ok (.getfield 49, 3) := by decide +kernel
theorem dX6_skip_42 : decode cX6_skip 42 = .ok (.iload_n 1, 1) := by decide +kernel
theorem dX6_skip_43 : decode cX6_skip 43 = .ok (.iconst 1, 1) := by decide +kernel
theorem dX6_skip_44 : decode cX6_skip 44 = .ok (.invokevirtual 115, 3) := by decide +kernel
theorem dX6_skip_47 : decode cX6_skip 47 = .ok (.aload_n 0, 1) := by decide +kernel
theorem dX6_skip_48 : decode cX6_skip 48 = .ok (.iload_n 1, 1) := by decide +kernel
theorem dX6_skip_49 : decode cX6_skip 49 = .ok (.invokevirtual 207, 3) := by decide +kernel
theorem dX6_skip_52 : decode cX6_skip 52 = .ok (.istore_n 2, 1) := by decide +kernel
theorem dX6_skip_53 : decode cX6_skip 53 = .ok (.iconst 0, 1) := by decide +kernel
theorem dX6_skip_54 : decode cX6_skip 54 = .ok (.istore_n 3, 1) := by decide +kernel
theorem dX6_skip_55 : decode cX6_skip 55 = .ok (.iconst 0, 1) := by decide +kernel
theorem dX6_skip_56 : decode cX6_skip 56 = .ok (.istore 4, 2) := by decide +kernel
theorem dX6_skip_58 : decode cX6_skip 58 = .ok (.iload 4, 2) := by decide +kernel
theorem dX6_skip_60 : decode cX6_skip 60 = .ok (.aload_n 0, 1) := by decide +kernel
theorem dX6_skip_61 : decode cX6_skip 61 = .ok (.getfield 10, 3) := by decide +kernel
theorem dX6_skip_64 : decode cX6_skip 64 = .ok (.getfield 169, 3) := by decide +kernel
theorem dX6_skip_67 : decode cX6_skip 67 = .ok (.if_icmp .ge 57, 3) := by decide +kernel
theorem dX6_skip_70 : decode cX6_skip 70 = .ok (.aload_n 0, 1) := by decide +kernel
theorem dX6_skip_71 : decode cX6_skip 71 = .ok (.getfield 10, 3) := by decide +kernel
theorem dX6_skip_74 : decode cX6_skip 74 = .ok (.getfield 210, 3) := by decide +kernel
theorem dX6_skip_77 : decode cX6_skip 77 = .ok (.iload 4, 2) := by decide +kernel
theorem dX6_skip_79 : decode cX6_skip 79 = .ok (.invokevirtual 81, 3) := by decide +kernel
theorem dX6_skip_82 : decode cX6_skip 82 = .ok (.iconst 2, 1) := by decide +kernel
theorem dX6_skip_83 : decode cX6_skip 83 = .ok (.if_icmp .eq 35, 3) := by decide +kernel
theorem dX6_skip_86 : decode cX6_skip 86 = .ok (.aload_n 0, 1) := by decide +kernel
theorem dX6_skip_87 : decode cX6_skip 87 = .ok (.getfield 10, 3) := by decide +kernel
theorem dX6_skip_90 : decode cX6_skip 90 = .ok (.getfield 213, 3) := by decide +kernel
theorem dX6_skip_93 : decode cX6_skip 93 = .ok (.iload 4, 2) := by decide +kernel
theorem dX6_skip_95 : decode cX6_skip 95 = .ok (.invokevirtual 81, 3) := by decide +kernel
theorem dX6_skip_98 : decode cX6_skip 98 = .ok (.iload_n 1, 1) := by decide +kernel
theorem dX6_skip_99 : decode cX6_skip 99 = .ok (.if_icmp .ne 19, 3) := by decide +kernel
theorem dX6_skip_102 : decode cX6_skip 102 = .ok (.aload_n 0, 1) := by decide +kernel
theorem dX6_skip_103 : decode cX6_skip 103 = .ok (.getfield 10, 3) := by decide +kernel
theorem dX6_skip_106 : decode cX6_skip 106 = .ok (.getfield 213, 3) := by decide +kernel
theorem dX6_skip_109 : decode cX6_skip 109 = .ok (.iload 4, 2) := by decide +kernel
theorem dX6_skip_111 : decode cX6_skip 111 = .ok (.iload_n 2, 1) := by decide +kernel
theorem dX6_skip_112 : decode cX6_skip 112 = .ok (.invokevirtual 115, 3) := by decide +kernel
theorem dX6_skip_115 : decode cX6_skip 115 = .ok (.iinc 3 1, 3) := by decide +kernel
theorem dX6_skip_118 : decode cX6_skip 118 = .ok (.iinc 4 1, 3) := by decide +kernel
theorem dX6_skip_121 : decode cX6_skip 121 = .ok (.goto (-63), 3) := by decide +kernel
theorem dX6_skip_124 : decode cX6_skip 124 = .ok (.iload_n 3, 1) := by decide +kernel
theorem dX6_skip_125 : decode cX6_skip 125 = .ok (.ireturn, 1) := by decide +kernel
def pX6_skip_b118 (K58 : Int32 → Int32 → Int32 → Int32 → St → Option (Nat × Int32 × St)) (x1 : Int32) (x2 : Int32) (x3 : Int32) (x4 : Int32) (v : St) : Option (Nat × Int32 × St) := K58 x1 x2 x3 (x4 + 1) v
def pX6_skip_b58  (n : Nat) : Int32 → Int32 → Int32 → Int32 → St → Option (Nat × Int32 × St) := Nat.rec (fun _ _ _ _ _ => none) (fun _ K58 x1 x2 x3 x4 v => if (v.2 6) ≤ x4 then (some (0, x3, v)) else (if (rg v 5 x4) = 2 then (pX6_skip_b118 K58 x1 x2 x3 x4 v) else (if (rg v 2 x4) = x1 then (pX6_skip_b118 K58 x1 x2 (x3 + 1) x4 (rs v 2 x4 x2)) else (pX6_skip_b118 K58 x1 x2 x3 x4 v)))) n
def pX6_skip (a1 : Int32) (u : St) : Option (Nat × Int32 × St) := if (pX6_isWithin a1 1 8) = 0 then (some (1, 0, u)) else (bnd (pX6_isAhead a1 u) (fun r2 w3 => if r2 = 0 then (some (3, 0, w3)) else (bnd (pX6_portBehind a1 (rs w3 21 a1 1)) (fun r6 w7 => pX6_skip_b58 100 a1 r6 0 0 w7))))
set_option maxHeartbeats 4000000 in
set_option maxRecDepth 20000 in
theorem kX6_skip {l : Launch} {D : va_G} {Y : Nat → ClassId} {q : Nat → Nat} {a1 : Int32} {u u1 : St} {k : Nat} {r : Int32} (hX : pX6_skip a1 u = some (k, r, u1)) (hl9 : l.stackTraces = false) : CMt false l yX6_skip cX6_skip 5 (some .int) 6 90 D Y (wC Y q u) (wC Y q u1) [.ref (q 0), .int a1] k r := by
  refine cm_oft (by decide) (Nat.le_of_ble_eq_true rfl) rfl (fun p e s m args below meth c A F hr hlk hT hex => ?_)
  show GW p l e { frames := 6, cells := 1, slots := 6, locals := 90 } s m args below meth c D A 5 0 0 (QT false below args s D (wC Y q u1) A k r) (wC Y q u) 0 [(0, .ref (q 0)), (1, .int a1)] []
  have b118 : ∀ (K58 : Int32 → Int32 → Int32 → Int32 → St → Option (Nat × Int32 × St)) (hK58 : ∀ (x1 : Int32) (x2 : Int32) (x3 : Int32) (x4 : Int32) (v : St), K58 x1 x2 x3 x4 v = some (k, r, u1) → GW p l e { frames := 6, cells := 1, slots := 6, locals := 90 } s m args below meth c D A 5 0 0 (QT false below args s D (wC Y q u1) A k r) (wC Y q v) 58 [(0, .ref (q 0)), (1, .int x1), (2, .int x2), (3, .int x3), (4, .int x4)] []) (x1 : Int32) (x2 : Int32) (x3 : Int32) (x4 : Int32) (v : St), pX6_skip_b118 K58 x1 x2 x3 x4 v = some (k, r, u1) → GW p l e { frames := 6, cells := 1, slots := 6, locals := 90 } s m args below meth c D A 5 0 0 (QT false below args s D (wC Y q u1) A k r) (wC Y q v) 118 [(0, .ref (q 0)), (1, .int x1), (2, .int x2), (3, .int x3), (4, .int x4)] [] := by
    intro K58 hK58 x1 x2 x3 x4 v hX
    have hX : ((K58 x1 x2 x3 (x4 + 1) v) : Option (Nat × Int32 × St)) = some (k, r, u1) := hX
    refine g_iinc (v := x4 + 1) (lv' := [(4, .int (x4 + 1)), (0, .ref (q 0)), (1, .int x1), (2, .int x2), (3, .int x3)]) F dX6_skip_118 4 rfl rfl (by decide) rfl ?_
    refine g_goto (tgt := 58) F dX6_skip_121 (by decide) ?_
    refine g_sub [1, 2, 3, 4, 0] rfl ?_
    exact hK58 x1 x2 x3 (x4 + 1) v hX
  have b58 : ∀  (n : Nat) (x1 : Int32) (x2 : Int32) (x3 : Int32) (x4 : Int32) (v : St), pX6_skip_b58  n x1 x2 x3 x4 v = some (k, r, u1) → GW p l e { frames := 6, cells := 1, slots := 6, locals := 90 } s m args below meth c D A 5 0 0 (QT false below args s D (wC Y q u1) A k r) (wC Y q v) 58 [(0, .ref (q 0)), (1, .int x1), (2, .int x2), (3, .int x3), (4, .int x4)] [] := by
    intro  n
    induction n with
    | zero => intro x1 x2 x3 x4 v hX; cases hX
    | succ n ih =>
      intro x1 x2 x3 x4 v hX
      obtain ⟨K58, eK⟩ : ∃ K : Int32 → Int32 → Int32 → Int32 → St → Option (Nat × Int32 × St), K = pX6_skip_b58  n := ⟨_, rfl⟩
      have hK58 : ∀ (x1 : Int32) (x2 : Int32) (x3 : Int32) (x4 : Int32) (v : St), K58 x1 x2 x3 x4 v = some (k, r, u1) → GW p l e { frames := 6, cells := 1, slots := 6, locals := 90 } s m args below meth c D A 5 0 0 (QT false below args s D (wC Y q u1) A k r) (wC Y q v) 58 [(0, .ref (q 0)), (1, .int x1), (2, .int x2), (3, .int x3), (4, .int x4)] [] := by rw [eK]; exact ih
      have hX : ((if (v.2 6) ≤ x4 then (some (0, x3, v)) else (if (rg v 5 x4) = 2 then (pX6_skip_b118 K58 x1 x2 x3 x4 v) else (if (rg v 2 x4) = x1 then (pX6_skip_b118 K58 x1 x2 (x3 + 1) x4 (rs v 2 x4 x2)) else (pX6_skip_b118 K58 x1 x2 x3 x4 v)))) : Option (Nat × Int32 × St)) = some (k, r, u1) := by rw [eK]; exact hX
      refine g_iload F dX6_skip_58 4 rfl ?_
      refine g_aload_n F dX6_skip_60 0 rfl rfl ?_
      refine G_X6_10 F dX6_skip_61 ?_
      refine G_X6_169 F dX6_skip_64 ?_
      refine g_icmp_ge (tgt := 124) F dX6_skip_67 (by decide) (fun c9 => ?_) (fun c9 => ?_)
      · have hX := if_t hX c9
        refine g_iload_n F dX6_skip_124 3 rfl rfl ?_
        exact g_retT (wf := wC Y q) F hr rfl hlk dX6_skip_125 hX
      · have hX := if_f hX c9
        refine g_aload_n F dX6_skip_70 0 rfl rfl ?_
        refine G_X6_10 F dX6_skip_71 ?_
        refine G_X6_210 F dX6_skip_74 ?_
        refine g_iload F dX6_skip_77 4 rfl ?_
        refine C_rget F 5 (by decide) ml_X6_81 ⟨Nat.le_of_ble_eq_true rfl, Nat.le_of_ble_eq_true rfl⟩ (Nat.le_of_ble_eq_true rfl) dX6_skip_79 ?_
        refine g_iconst (v := 2) F dX6_skip_82 (by decide) ?_
        refine g_icmp_eq (tgt := 118) F dX6_skip_83 (by decide) (fun c10 => ?_) (fun c10 => ?_)
        · have hX := if_t hX c10
          exact b118 K58 hK58 x1 x2 x3 x4 v hX
        · have hX := if_f hX c10
          refine g_aload_n F dX6_skip_86 0 rfl rfl ?_
          refine G_X6_10 F dX6_skip_87 ?_
          refine G_X6_213 F dX6_skip_90 ?_
          refine g_iload F dX6_skip_93 4 rfl ?_
          refine C_rget F 2 (by decide) ml_X6_81 ⟨Nat.le_of_ble_eq_true rfl, Nat.le_of_ble_eq_true rfl⟩ (Nat.le_of_ble_eq_true rfl) dX6_skip_95 ?_
          refine g_iload_n F dX6_skip_98 1 rfl rfl ?_
          refine g_icmp_ne (tgt := 118) F dX6_skip_99 (by decide) (fun c11 => ?_) (fun c11 => ?_)
          · have hX := if_f hX c11
            exact b118 K58 hK58 x1 x2 x3 x4 v hX
          · have hX := if_t hX c11
            refine g_aload_n F dX6_skip_102 0 rfl rfl ?_
            refine G_X6_10 F dX6_skip_103 ?_
            refine G_X6_213 F dX6_skip_106 ?_
            refine g_iload F dX6_skip_109 4 rfl ?_
            refine g_iload_n F dX6_skip_111 2 rfl rfl ?_
            refine C_rset F 2 (by decide) ml_X6_115 ⟨Nat.le_of_ble_eq_true rfl, Nat.le_of_ble_eq_true rfl⟩ (Nat.le_of_ble_eq_true rfl) dX6_skip_112 ?_
            refine g_iinc (v := x3 + 1) (lv' := [(3, .int (x3 + 1)), (0, .ref (q 0)), (1, .int x1), (2, .int x2), (4, .int x4)]) F dX6_skip_115 3 rfl rfl (by decide) rfl ?_
            refine g_sub [1, 2, 3, 0, 4] rfl ?_
            exact b118 K58 hK58 x1 x2 (x3 + 1) x4 (rs v 2 x4 x2) hX
  have hX : ((if (pX6_isWithin a1 1 8) = 0 then (some (1, 0, u)) else (bnd (pX6_isAhead a1 u) (fun r2 w3 => if r2 = 0 then (some (3, 0, w3)) else (bnd (pX6_portBehind a1 (rs w3 21 a1 1)) (fun r6 w7 => pX6_skip_b58 100 a1 r6 0 0 w7))))) : Option (Nat × Int32 × St)) = some (k, r, u1) := hX
  refine g_iload_n F dX6_skip_0 1 rfl rfl ?_
  refine g_iconst (v := 1) F dX6_skip_1 (by decide) ?_
  refine g_bipush (v := 8) F dX6_skip_2 (by decide) ?_
  refine callX6_isWithin F ml_X6_96 ⟨Nat.le_of_ble_eq_true rfl, Nat.le_of_ble_eq_true rfl⟩ (Nat.le_of_ble_eq_true rfl) dX6_skip_4 ?_
  refine g_if_ne (tgt := 20) F dX6_skip_7 (by decide) (fun c1 => ?_) (fun c1 => ?_)
  · have hX := if_f hX c1
    refine g_aload_n F dX6_skip_20 0 rfl rfl ?_
    refine g_iload_n F dX6_skip_21 1 rfl rfl ?_
    obtain ⟨r2, w3, hc4, hX⟩ := bnd_s hX
    refine callX6_isAhead F hc4 ml_X6_202 ⟨Nat.le_of_ble_eq_true rfl, Nat.le_of_ble_eq_true rfl⟩ (Nat.le_of_ble_eq_true rfl) dX6_skip_22 ?_
    refine g_if_ne (tgt := 38) F dX6_skip_25 (by decide) (fun c5 => ?_) (fun c5 => ?_)
    · have hX := if_f hX c5
      refine g_aload_n F dX6_skip_38 0 rfl rfl ?_
      refine G_X6_49 F dX6_skip_39 ?_
      refine g_iload_n F dX6_skip_42 1 rfl rfl ?_
      refine g_iconst (v := 1) F dX6_skip_43 (by decide) ?_
      refine C_rset F 21 (by decide) ml_X6_115 ⟨Nat.le_of_ble_eq_true rfl, Nat.le_of_ble_eq_true rfl⟩ (Nat.le_of_ble_eq_true rfl) dX6_skip_44 ?_
      refine g_aload_n F dX6_skip_47 0 rfl rfl ?_
      refine g_iload_n F dX6_skip_48 1 rfl rfl ?_
      obtain ⟨r6, w7, hc8, hX⟩ := bnd_s hX
      refine callX6_portBehind F hc8 ml_X6_207 ⟨Nat.le_of_ble_eq_true rfl, Nat.le_of_ble_eq_true rfl⟩ (Nat.le_of_ble_eq_true rfl) dX6_skip_49 ?_
      refine g_istore_n (lv' := [(2, .int r6), (0, .ref (q 0)), (1, .int a1)]) F dX6_skip_52 rfl (by decide) rfl ?_
      refine g_iconst (v := 0) F dX6_skip_53 (by decide) ?_
      refine g_istore_n (lv' := [(3, .int 0), (2, .int r6), (0, .ref (q 0)), (1, .int a1)]) F dX6_skip_54 rfl (by decide) rfl ?_
      refine g_iconst (v := 0) F dX6_skip_55 (by decide) ?_
      refine g_istore (lv' := [(4, .int 0), (3, .int 0), (2, .int r6), (0, .ref (q 0)), (1, .int a1)]) F dX6_skip_56 (by decide) rfl ?_
      refine g_sub [3, 4, 2, 1, 0] rfl ?_
      exact b58 100 a1 r6 0 0 w7 hX
    · have hX := if_t hX c5
      exact g_throwS F hl9 hT hex hlk (kc := 3) (is := 205) (text := "the port is not ahead") cl_X6_84 in_IllegalStateException (List.mem_of_getElem? (i := 19) rfl) at_88 (by decide) (by decide +kernel) dX6_skip_28 dX6_skip_31 dX6_skip_32 dX6_skip_34 dX6_skip_37 ⟨Nat.le_of_ble_eq_true rfl, Nat.le_of_ble_eq_true rfl, Nat.le_refl _, Nat.le_refl _⟩ hX
  · have hX := if_t hX c1
    exact g_throwS F hl9 hT hex hlk (kc := 1) (is := 200) (text := "no port that can be left out") cl_X6_67 in_IndexOutOfBoundsException (List.mem_of_getElem? (i := 18) rfl) at_71 (by decide) (by decide +kernel) dX6_skip_10 dX6_skip_13 dX6_skip_14 dX6_skip_16 dX6_skip_19 ⟨Nat.le_of_ble_eq_true rfl, Nat.le_of_ble_eq_true rfl, Nat.le_refl _, Nat.le_refl _⟩ hX
theorem dX6_order_0 : decode cX6_order 0 = .ok (.iload_n 1, 1) := by decide +kernel
theorem dX6_order_1 : decode cX6_order 1 = .ok (.iconst 0, 1) := by decide +kernel
theorem dX6_order_2 : decode cX6_order 2 = .ok (.iconst 4, 1) := by decide +kernel
theorem dX6_order_3 : decode cX6_order 3 = .ok (.invokestatic 96, 3) := by decide +kernel
theorem dX6_order_6 : decode cX6_order 6 = .ok (.ifCond .ne 13, 3) := by decide +kernel
theorem dX6_order_9 : decode cX6_order 9 = .ok (.new 100, 3) := by decide +kernel
theorem dX6_order_12 : decode cX6_order 12 = .ok (.dup, 1) := by decide +kernel
theorem dX6_order_13 : decode cX6_order 13 = .ok (.ldc 216, 2) := by decide +kernel
theorem dX6_order_15 : decode cX6_order 15 = .ok (.invokespecial 104, 3) := by decide +kernel
theorem dX6_order_18 : decode cX6_order 18 = .ok (.athrow, 1) := by decide +kernel
theorem dX6_order_19 : decode cX6_order 19 = .ok (.iload_n 1, 1) := by decide +kernel
theorem dX6_order_20 : decode cX6_order 20 = .ok (.iconst 3, 1) := by decide +kernel
theorem dX6_order_21 : decode cX6_order 21 = .ok (.if_icmp .eq 8, 3) := by decide +kernel
theorem dX6_order_24 : decode cX6_order 24 = .ok (.iload_n 1, 1) := by decide +kernel
theorem dX6_order_25 : decode cX6_order 25 = .ok (.iconst 4, 1) := by decide +kernel
theorem dX6_order_26 : decode cX6_order 26 = .ok (.if_icmp .ne 20, 3) := by decide +kernel
theorem dX6_order_29 : decode cX6_order 29 = .ok (.iload_n 2, 1) := by decide +kernel
theorem dX6_order_30 : decode cX6_order 30 = .ok (.invokestatic 105, 3) := by decide +kernel
theorem dX6_order_33 : decode cX6_order 33 = .ok (.ifCond .ne 75, 3) := by decide +kernel
theorem dX6_order_36 : decode cX6_order 36 = .ok (.new 67, 3) := by decide +kernel
theorem dX6_order_39 : decode cX6_order 39 = .ok (.dup, 1) := by decide +kernel
theorem dX6_order_40 : decode cX6_order 40 = .ok (.ldc 108, 2) := by decide +kernel
theorem dX6_order_42 : decode cX6_order 42 = .ok (.invokespecial 71, 3) := by decide +kernel
theorem dX6_order_45 : decode cX6_order 45 = .ok (.athrow, 1) := by decide +kernel
theorem dX6_order_46 : decode cX6_order 46 = .ok (.aload_n 0, 1) := by decide +kernel
theorem dX6_order_47 : decode cX6_order 47 = .ok (.iload_n 2, 1) := by decide +kernel
theorem dX6_order_48 : decode cX6_order 48 = .ok (.invokevirtual 187, 3) := by decide +kernel
theorem dX6_order_51 : decode cX6_order 51 = .ok (.ifCond .ne 13, 3) := by decide +kernel
theorem dX6_order_54 : decode cX6_order 54 = .ok (.new 67, 3) := by decide +kernel
theorem dX6_order_57 : decode cX6_order 57 = .ok (.dup, 1) := by decide +kernel
theorem dX6_order_58 : decode cX6_order 58 = .ok (.ldc 190, 2) := by decide +kernel
theorem dX6_order_60 : decode cX6_order 60 = .ok (.invokespecial 71, 3) := by decide +kernel
theorem dX6_order_63 : decode cX6_order 63 = .ok (.athrow, 1) := by decide +kernel
theorem dX6_order_64 : decode cX6_order 64 = .ok (.iload_n 1, 1) := by decide +kernel
theorem dX6_order_65 : decode cX6_order 65 = .ok (.iconst 1, 1) := by decide +kernel
theorem dX6_order_66 : decode cX6_order 66 = .ok (.if_icmp .ne 20, 3) := by decide +kernel
theorem dX6_order_69 : decode cX6_order 69 = .ok (.iload_n 3, 1) := by decide +kernel
theorem dX6_order_70 : decode cX6_order 70 = .ok (.invokestatic 158, 3) := by decide +kernel
theorem dX6_order_73 : decode cX6_order 73 = .ok (.ifCond .ne 13, 3) := by decide +kernel
theorem dX6_order_76 : decode cX6_order 76 = .ok (.new 67, 3) := by decide +kernel
theorem dX6_order_79 : decode cX6_order 79 = .ok (.dup, 1) := by decide +kernel
theorem dX6_order_80 : decode cX6_order 80 = .ok (.ldc 161, 2) := by decide +kernel
theorem dX6_order_82 : decode cX6_order 82 = .ok (.invokespecial 71, 3) := by decide +kernel
theorem dX6_order_85 : decode cX6_order 85 = .ok (.athrow, 1) := by decide +kernel
theorem dX6_order_86 : decode cX6_order 86 = .ok (.iload_n 1, 1) := by decide +kernel
theorem dX6_order_87 : decode cX6_order 87 = .ok (.iconst 1, 1) := by decide +kernel
theorem dX6_order_88 : decode cX6_order 88 = .ok (.if_icmp .eq 20, 3) := by decide +kernel
theorem dX6_order_91 : decode cX6_order 91 = .ok (.iload_n 3, 1) := by decide +kernel
theorem dX6_order_92 : decode cX6_order 92 = .ok (.invokestatic 63, 3) := by decide +kernel
theorem dX6_order_95 : decode cX6_order 95 = .ok (.ifCond .ne 13, 3) := by decide +kernel
theorem dX6_order_98 : decode cX6_order 98 = .ok (.new 67, 3) := by decide +kernel
theorem dX6_order_101 : decode cX6_order 101 = .ok (.dup, 1) := by decide +kernel
theorem dX6_order_102 : decode cX6_order 102 = .ok (.ldc 69, 2) := by decide +kernel
theorem dX6_order_104 : decode cX6_order 104 = .ok (.invokespecial 71, 3) := by decide +kernel
theorem dX6_order_107 : decode cX6_order 107 = .ok (.athrow, 1) := by decide +kernel
theorem dX6_order_108 : decode cX6_order 108 = .ok (.aload_n 0, 1) := by decide +kernel
theorem dX6_order_109 : decode cX6_order 109 = .ok (.getfield 33, 3) := by decide +kernel
theorem dX6_order_112 : decode cX6_order 112 = .ok (.getfield 218, 3) := by decide +kernel
theorem dX6_order_115 : decode cX6_order 115 = .ok (.bipush 20, 2) := by decide +kernel
theorem dX6_order_117 : decode cX6_order 117 = .ok (.if_icmp .lt 13, 3) := by decide +kernel
theorem dX6_order_120 : decode cX6_order 120 = .ok (.new 84, 3) := by decide +kernel
theorem dX6_order_123 : decode cX6_order 123 = .ok (.dup, 1) := by decide +kernel
theorem dX6_order_124 : decode cX6_order 124 = .ok (.ldc 219, 2) := by decide +kernel
theorem dX6_order_126 : decode cX6_order 126 = .ok (.invokespecial 88, 3) := by decide +kernel
theorem dX6_order_129 : decode cX6_order 129 = .ok (.athrow, 1) := by decide +kernel
theorem dX6_order_130 : decode cX6_order 130 = .ok (.aload_n 0, 1) := by decide +kernel
theorem dX6_order_131 : decode cX6_order 131 = .ok (.getfield 33, 3) := by decide +kernel
theorem dX6_order_134 : decode cX6_order 134 = .ok (.iload_n 1, 1) := by decide +kernel
theorem dX6_order_135 : decode cX6_order 135 = .ok (.iload_n 2, 1) := by decide +kernel
theorem dX6_order_136 : decode cX6_order 136 = .ok (.iload_n 3, 1) := by decide +kernel
theorem dX6_order_137 : decode cX6_order 137 = .ok (.invokevirtual 221, 3) := by decide +kernel
theorem dX6_order_140 : decode cX6_order 140 = .ok (.aload_n 0, 1) := by decide +kernel
theorem dX6_order_141 : decode cX6_order 141 = .ok (.getfield 33, 3) := by decide +kernel
theorem dX6_order_144 : decode cX6_order 144 = .ok (.getfield 218, 3) := by decide +kernel
theorem dX6_order_147 : decode cX6_order 147 = .ok (.ireturn, 1) := by decide +kernel
def pX6_order_b108  (x1 : Int32) (x2 : Int32) (x3 : Int32) (v : St) : Option (Nat × Int32 × St) := if (v.2 8) < 20 then (bnd (pX2_append x1 x2 x3 v) (fun r5 w6 => some (0, w6.2 8, w6))) else (some (3, 0, v))
def pX6_order_b29  (x1 : Int32) (x2 : Int32) (x3 : Int32) (v : St) : Option (Nat × Int32 × St) := if (pX6_isBay x2) = 0 then (some (1, 0, v)) else (pX6_order_b108 x1 x2 x3 v)
def pX6_order_b86  (x1 : Int32) (x2 : Int32) (x3 : Int32) (v : St) : Option (Nat × Int32 × St) := if x1 = 1 then (pX6_order_b108 x1 x2 x3 v) else (if (pX6_isSlot x3) = 0 then (some (1, 0, v)) else (pX6_order_b108 x1 x2 x3 v))
def pX6_order (a1 : Int32) (a2 : Int32) (a3 : Int32) (u : St) : Option (Nat × Int32 × St) := if (pX6_isWithin a1 0 4) = 0 then (some (2, 0, u)) else (if a1 = 3 then (pX6_order_b29 a1 a2 a3 u) else (if a1 = 4 then (pX6_order_b29 a1 a2 a3 u) else (bnd (pX6_isBox a2 u) (fun r9 w10 => if r9 = 0 then (some (1, 0, w10)) else (if a1 = 1 then (if (pX6_isStack a3) = 0 then (some (1, 0, w10)) else (pX6_order_b86 a1 a2 a3 w10)) else (pX6_order_b86 a1 a2 a3 w10))))))
set_option maxHeartbeats 4000000 in
set_option maxRecDepth 20000 in
theorem kX6_order {l : Launch} {D : va_G} {Y : Nat → ClassId} {q : Nat → Nat} {a1 a2 a3 : Int32} {u u1 : St} {k : Nat} {r : Int32} (hX : pX6_order a1 a2 a3 u = some (k, r, u1)) (hl9 : l.stackTraces = false) : CMt false l yX6_order cX6_order 4 (some .int) 6 90 D Y (wC Y q u) (wC Y q u1) [.ref (q 0), .int a1, .int a2, .int a3] k r := by
  refine cm_oft (by decide) (Nat.le_of_ble_eq_true rfl) rfl (fun p e s m args below meth c A F hr hlk hT hex => ?_)
  show GW p l e { frames := 6, cells := 1, slots := 6, locals := 90 } s m args below meth c D A 4 0 0 (QT false below args s D (wC Y q u1) A k r) (wC Y q u) 0 [(0, .ref (q 0)), (1, .int a1), (2, .int a2), (3, .int a3)] []
  have b108 : ∀  (x1 : Int32) (x2 : Int32) (x3 : Int32) (v : St), pX6_order_b108  x1 x2 x3 v = some (k, r, u1) → GW p l e { frames := 6, cells := 1, slots := 6, locals := 90 } s m args below meth c D A 4 0 0 (QT false below args s D (wC Y q u1) A k r) (wC Y q v) 108 [(0, .ref (q 0)), (1, .int x1), (2, .int x2), (3, .int x3)] [] := by
    intro  x1 x2 x3 v hX
    have hX : ((if (v.2 8) < 20 then (bnd (pX2_append x1 x2 x3 v) (fun r5 w6 => some (0, w6.2 8, w6))) else (some (3, 0, v))) : Option (Nat × Int32 × St)) = some (k, r, u1) := hX
    refine g_aload_n F dX6_order_108 0 rfl rfl ?_
    refine G_X6_33 F dX6_order_109 ?_
    refine G_X6_218 F dX6_order_112 ?_
    refine g_bipush (v := 20) F dX6_order_115 (by decide) ?_
    refine g_icmp_lt (tgt := 130) F dX6_order_117 (by decide) (fun c4 => ?_) (fun c4 => ?_)
    · have hX := if_t hX c4
      refine g_aload_n F dX6_order_130 0 rfl rfl ?_
      refine G_X6_33 F dX6_order_131 ?_
      refine g_iload_n F dX6_order_134 1 rfl rfl ?_
      refine g_iload_n F dX6_order_135 2 rfl rfl ?_
      refine g_iload_n F dX6_order_136 3 rfl rfl ?_
      obtain ⟨r5, w6, hc7, hX⟩ := bnd_s hX
      refine callX2_append F hc7 ml_X6_221 ⟨Nat.le_of_ble_eq_true rfl, Nat.le_of_ble_eq_true rfl⟩ (Nat.le_of_ble_eq_true rfl) dX6_order_137 ?_
      refine g_aload_n F dX6_order_140 0 rfl rfl ?_
      refine G_X6_33 F dX6_order_141 ?_
      refine G_X6_218 F dX6_order_144 ?_
      exact g_retT (wf := wC Y q) F hr rfl hlk dX6_order_147 hX
    · have hX := if_f hX c4
      exact g_throwS F hl9 hT hex hlk (kc := 3) (is := 219) (text := "there are 20 orders") cl_X6_84 in_IllegalStateException (List.mem_of_getElem? (i := 21) rfl) at_88 (by decide) (by decide +kernel) dX6_order_120 dX6_order_123 dX6_order_124 dX6_order_126 dX6_order_129 ⟨Nat.le_of_ble_eq_true rfl, Nat.le_of_ble_eq_true rfl, Nat.le_refl _, Nat.le_refl _⟩ hX
  have b29 : ∀  (x1 : Int32) (x2 : Int32) (x3 : Int32) (v : St), pX6_order_b29  x1 x2 x3 v = some (k, r, u1) → GW p l e { frames := 6, cells := 1, slots := 6, locals := 90 } s m args below meth c D A 4 0 0 (QT false below args s D (wC Y q u1) A k r) (wC Y q v) 29 [(0, .ref (q 0)), (1, .int x1), (2, .int x2), (3, .int x3)] [] := by
    intro  x1 x2 x3 v hX
    have hX : ((if (pX6_isBay x2) = 0 then (some (1, 0, v)) else (pX6_order_b108 x1 x2 x3 v)) : Option (Nat × Int32 × St)) = some (k, r, u1) := hX
    refine g_iload_n F dX6_order_29 2 rfl rfl ?_
    refine callX6_isBay F ml_X6_105 ⟨Nat.le_of_ble_eq_true rfl, Nat.le_of_ble_eq_true rfl⟩ (Nat.le_of_ble_eq_true rfl) dX6_order_30 ?_
    refine g_if_ne (tgt := 108) F dX6_order_33 (by decide) (fun c3 => ?_) (fun c3 => ?_)
    · have hX := if_f hX c3
      exact b108 x1 x2 x3 v hX
    · have hX := if_t hX c3
      exact g_throwS F hl9 hT hex hlk (kc := 1) (is := 108) (text := "no such bay") cl_X6_67 in_IndexOutOfBoundsException (List.mem_of_getElem? (i := 3) rfl) at_71 (by decide) (by decide +kernel) dX6_order_36 dX6_order_39 dX6_order_40 dX6_order_42 dX6_order_45 ⟨Nat.le_of_ble_eq_true rfl, Nat.le_of_ble_eq_true rfl, Nat.le_refl _, Nat.le_refl _⟩ hX
  have b86 : ∀  (x1 : Int32) (x2 : Int32) (x3 : Int32) (v : St), pX6_order_b86  x1 x2 x3 v = some (k, r, u1) → GW p l e { frames := 6, cells := 1, slots := 6, locals := 90 } s m args below meth c D A 4 0 0 (QT false below args s D (wC Y q u1) A k r) (wC Y q v) 86 [(0, .ref (q 0)), (1, .int x1), (2, .int x2), (3, .int x3)] [] := by
    intro  x1 x2 x3 v hX
    have hX : ((if x1 = 1 then (pX6_order_b108 x1 x2 x3 v) else (if (pX6_isSlot x3) = 0 then (some (1, 0, v)) else (pX6_order_b108 x1 x2 x3 v))) : Option (Nat × Int32 × St)) = some (k, r, u1) := hX
    refine g_iload_n F dX6_order_86 1 rfl rfl ?_
    refine g_iconst (v := 1) F dX6_order_87 (by decide) ?_
    refine g_icmp_eq (tgt := 108) F dX6_order_88 (by decide) (fun c14 => ?_) (fun c14 => ?_)
    · have hX := if_t hX c14
      exact b108 x1 x2 x3 v hX
    · have hX := if_f hX c14
      refine g_iload_n F dX6_order_91 3 rfl rfl ?_
      refine callX6_isSlot F ml_X6_63 ⟨Nat.le_of_ble_eq_true rfl, Nat.le_of_ble_eq_true rfl⟩ (Nat.le_of_ble_eq_true rfl) dX6_order_92 ?_
      refine g_if_ne (tgt := 108) F dX6_order_95 (by decide) (fun c15 => ?_) (fun c15 => ?_)
      · have hX := if_f hX c15
        exact b108 x1 x2 x3 v hX
      · have hX := if_t hX c15
        exact g_throwS F hl9 hT hex hlk (kc := 1) (is := 69) (text := "no such slot") cl_X6_67 in_IndexOutOfBoundsException (List.mem_of_getElem? (i := 0) rfl) at_71 (by decide) (by decide +kernel) dX6_order_98 dX6_order_101 dX6_order_102 dX6_order_104 dX6_order_107 ⟨Nat.le_of_ble_eq_true rfl, Nat.le_of_ble_eq_true rfl, Nat.le_refl _, Nat.le_refl _⟩ hX
  have hX : ((if (pX6_isWithin a1 0 4) = 0 then (some (2, 0, u)) else (if a1 = 3 then (pX6_order_b29 a1 a2 a3 u) else (if a1 = 4 then (pX6_order_b29 a1 a2 a3 u) else (bnd (pX6_isBox a2 u) (fun r9 w10 => if r9 = 0 then (some (1, 0, w10)) else (if a1 = 1 then (if (pX6_isStack a3) = 0 then (some (1, 0, w10)) else (pX6_order_b86 a1 a2 a3 w10)) else (pX6_order_b86 a1 a2 a3 w10))))))) : Option (Nat × Int32 × St)) = some (k, r, u1) := hX
  refine g_iload_n F dX6_order_0 1 rfl rfl ?_
  refine g_iconst (v := 0) F dX6_order_1 (by decide) ?_
  refine g_iconst (v := 4) F dX6_order_2 (by decide) ?_
  refine callX6_isWithin F ml_X6_96 ⟨Nat.le_of_ble_eq_true rfl, Nat.le_of_ble_eq_true rfl⟩ (Nat.le_of_ble_eq_true rfl) dX6_order_3 ?_
  refine g_if_ne (tgt := 19) F dX6_order_6 (by decide) (fun c1 => ?_) (fun c1 => ?_)
  · have hX := if_f hX c1
    refine g_iload_n F dX6_order_19 1 rfl rfl ?_
    refine g_iconst (v := 3) F dX6_order_20 (by decide) ?_
    refine g_icmp_eq (tgt := 29) F dX6_order_21 (by decide) (fun c2 => ?_) (fun c2 => ?_)
    · have hX := if_t hX c2
      exact b29 a1 a2 a3 u hX
    · have hX := if_f hX c2
      refine g_iload_n F dX6_order_24 1 rfl rfl ?_
      refine g_iconst (v := 4) F dX6_order_25 (by decide) ?_
      refine g_icmp_ne (tgt := 46) F dX6_order_26 (by decide) (fun c8 => ?_) (fun c8 => ?_)
      · have hX := if_f hX c8
        refine g_aload_n F dX6_order_46 0 rfl rfl ?_
        refine g_iload_n F dX6_order_47 2 rfl rfl ?_
        obtain ⟨r9, w10, hc11, hX⟩ := bnd_s hX
        refine callX6_isBox F hc11 ml_X6_187 ⟨Nat.le_of_ble_eq_true rfl, Nat.le_of_ble_eq_true rfl⟩ (Nat.le_of_ble_eq_true rfl) dX6_order_48 ?_
        refine g_if_ne (tgt := 64) F dX6_order_51 (by decide) (fun c12 => ?_) (fun c12 => ?_)
        · have hX := if_f hX c12
          refine g_iload_n F dX6_order_64 1 rfl rfl ?_
          refine g_iconst (v := 1) F dX6_order_65 (by decide) ?_
          refine g_icmp_ne (tgt := 86) F dX6_order_66 (by decide) (fun c13 => ?_) (fun c13 => ?_)
          · have hX := if_f hX c13
            exact b86 a1 a2 a3 w10 hX
          · have hX := if_t hX c13
            refine g_iload_n F dX6_order_69 3 rfl rfl ?_
            refine callX6_isStack F ml_X6_158 ⟨Nat.le_of_ble_eq_true rfl, Nat.le_of_ble_eq_true rfl⟩ (Nat.le_of_ble_eq_true rfl) dX6_order_70 ?_
            refine g_if_ne (tgt := 86) F dX6_order_73 (by decide) (fun c16 => ?_) (fun c16 => ?_)
            · have hX := if_f hX c16
              exact b86 a1 a2 a3 w10 hX
            · have hX := if_t hX c16
              exact g_throwS F hl9 hT hex hlk (kc := 1) (is := 161) (text := "no such stack") cl_X6_67 in_IndexOutOfBoundsException (List.mem_of_getElem? (i := 10) rfl) at_71 (by decide) (by decide +kernel) dX6_order_76 dX6_order_79 dX6_order_80 dX6_order_82 dX6_order_85 ⟨Nat.le_of_ble_eq_true rfl, Nat.le_of_ble_eq_true rfl, Nat.le_refl _, Nat.le_refl _⟩ hX
        · have hX := if_t hX c12
          exact g_throwS F hl9 hT hex hlk (kc := 1) (is := 190) (text := "no such box") cl_X6_67 in_IndexOutOfBoundsException (List.mem_of_getElem? (i := 16) rfl) at_71 (by decide) (by decide +kernel) dX6_order_54 dX6_order_57 dX6_order_58 dX6_order_60 dX6_order_63 ⟨Nat.le_of_ble_eq_true rfl, Nat.le_of_ble_eq_true rfl, Nat.le_refl _, Nat.le_refl _⟩ hX
      · have hX := if_t hX c8
        exact b29 a1 a2 a3 u hX
  · have hX := if_t hX c1
    exact g_throwS F hl9 hT hex hlk (kc := 2) (is := 216) (text := "what is out of range") cl_X6_100 in_IllegalArgumentException (List.mem_of_getElem? (i := 20) rfl) at_104 (by decide) (by decide +kernel) dX6_order_9 dX6_order_12 dX6_order_13 dX6_order_15 dX6_order_18 ⟨Nat.le_of_ble_eq_true rfl, Nat.le_of_ble_eq_true rfl, Nat.le_refl _, Nat.le_refl _⟩ hX
theorem dX6_drop_0 : decode cX6_drop 0 = .ok (.aload_n 0, 1) := by decide +kernel
theorem dX6_drop_1 : decode cX6_drop 1 = .ok (.iload_n 1, 1) := by decide +kernel
theorem dX6_drop_2 : decode cX6_drop 2 = .ok (.invokevirtual 225, 3) := by decide +kernel
theorem dX6_drop_5 : decode cX6_drop 5 = .ok (.ifCond .ne 13, 3) := by decide +kernel
theorem dX6_drop_8 : decode cX6_drop 8 = .ok (.new 67, 3) := by decide +kernel
theorem dX6_drop_11 : decode cX6_drop 11 = .ok (.dup, 1) := by decide +kernel
theorem dX6_drop_12 : decode cX6_drop 12 = .ok (.ldc 228, 2) := by decide +kernel
theorem dX6_drop_14 : decode cX6_drop 14 = .ok (.invokespecial 71, 3) := by decide +kernel
theorem dX6_drop_17 : decode cX6_drop 17 = .ok (.athrow, 1) := by decide +kernel
theorem dX6_drop_18 : decode cX6_drop 18 = .ok (.aload_n 0, 1) := by decide +kernel
theorem dX6_drop_19 : decode cX6_drop 19 = .ok (.getfield 33, 3) := by decide +kernel
theorem dX6_drop_22 : decode cX6_drop 22 = .ok (.iload_n 1, 1) := by decide +kernel
theorem dX6_drop_23 : decode cX6_drop 23 = .ok (.invokevirtual 230, 3) := by decide +kernel
theorem dX6_drop_26 : decode cX6_drop 26 = .ok (.aload_n 0, 1) := by decide +kernel
theorem dX6_drop_27 : decode cX6_drop 27 = .ok (.getfield 33, 3) := by decide +kernel
theorem dX6_drop_30 : decode cX6_drop 30 = .ok (.getfield 218, 3) := by decide +kernel
theorem dX6_drop_33 : decode cX6_drop 33 = .ok (.ireturn, 1) := by decide +kernel
def pX6_drop (a1 : Int32) (u : St) : Option (Nat × Int32 × St) := bnd (pX6_isOrder a1 u) (fun r1 w2 => if r1 = 0 then (some (1, 0, w2)) else (bnd (pX2_remove a1 w2) (fun r5 w6 => some (0, w6.2 8, w6))))
set_option maxHeartbeats 4000000 in
set_option maxRecDepth 20000 in
theorem kX6_drop {l : Launch} {D : va_G} {Y : Nat → ClassId} {q : Nat → Nat} {a1 : Int32} {u u1 : St} {k : Nat} {r : Int32} (hX : pX6_drop a1 u = some (k, r, u1)) (hl9 : l.stackTraces = false) : CMt false l yX6_drop cX6_drop 2 (some .int) 6 90 D Y (wC Y q u) (wC Y q u1) [.ref (q 0), .int a1] k r := by
  refine cm_oft (by decide) (Nat.le_of_ble_eq_true rfl) rfl (fun p e s m args below meth c A F hr hlk hT hex => ?_)
  show GW p l e { frames := 6, cells := 1, slots := 6, locals := 90 } s m args below meth c D A 2 0 0 (QT false below args s D (wC Y q u1) A k r) (wC Y q u) 0 [(0, .ref (q 0)), (1, .int a1)] []
  have hX : ((bnd (pX6_isOrder a1 u) (fun r1 w2 => if r1 = 0 then (some (1, 0, w2)) else (bnd (pX2_remove a1 w2) (fun r5 w6 => some (0, w6.2 8, w6))))) : Option (Nat × Int32 × St)) = some (k, r, u1) := hX
  refine g_aload_n F dX6_drop_0 0 rfl rfl ?_
  refine g_iload_n F dX6_drop_1 1 rfl rfl ?_
  obtain ⟨r1, w2, hc3, hX⟩ := bnd_s hX
  refine callX6_isOrder F hc3 ml_X6_225 ⟨Nat.le_of_ble_eq_true rfl, Nat.le_of_ble_eq_true rfl⟩ (Nat.le_of_ble_eq_true rfl) dX6_drop_2 ?_
  refine g_if_ne (tgt := 18) F dX6_drop_5 (by decide) (fun c4 => ?_) (fun c4 => ?_)
  · have hX := if_f hX c4
    refine g_aload_n F dX6_drop_18 0 rfl rfl ?_
    refine G_X6_33 F dX6_drop_19 ?_
    refine g_iload_n F dX6_drop_22 1 rfl rfl ?_
    obtain ⟨r5, w6, hc7, hX⟩ := bnd_s hX
    refine callX2_remove F hc7 ml_X6_230 ⟨Nat.le_of_ble_eq_true rfl, Nat.le_of_ble_eq_true rfl⟩ (Nat.le_of_ble_eq_true rfl) dX6_drop_23 ?_
    refine g_aload_n F dX6_drop_26 0 rfl rfl ?_
    refine G_X6_33 F dX6_drop_27 ?_
    refine G_X6_218 F dX6_drop_30 ?_
    exact g_retT (wf := wC Y q) F hr rfl hlk dX6_drop_33 hX
  · have hX := if_t hX c4
    exact g_throwS F hl9 hT hex hlk (kc := 1) (is := 228) (text := "no such order") cl_X6_67 in_IndexOutOfBoundsException (List.mem_of_getElem? (i := 22) rfl) at_71 (by decide) (by decide +kernel) dX6_drop_8 dX6_drop_11 dX6_drop_12 dX6_drop_14 dX6_drop_17 ⟨Nat.le_of_ble_eq_true rfl, Nat.le_of_ble_eq_true rfl, Nat.le_refl _, Nat.le_refl _⟩ hX
theorem dX6_pass_0 : decode cX6_pass 0 = .ok (.iload_n 1, 1) := by decide +kernel
theorem dX6_pass_1 : decode cX6_pass 1 = .ok (.iconst 1, 1) := by decide +kernel
theorem dX6_pass_2 : decode cX6_pass 2 = .ok (.bipush 24, 2) := by decide +kernel
theorem dX6_pass_4 : decode cX6_pass 4 = .ok (.invokestatic 96, 3) := by decide +kernel
theorem dX6_pass_7 : decode cX6_pass 7 = .ok (.ifCond .ne 13, 3) := by decide +kernel
theorem dX6_pass_10 : decode cX6_pass 10 = .ok (.new 100, 3) := by decide +kernel
theorem dX6_pass_13 : decode cX6_pass 13 = .ok (.dup, 1) := by decide +kernel
theorem dX6_pass_14 : decode cX6_pass 14 = .ok (.ldc 124, 2) := by decide +kernel
theorem dX6_pass_16 : decode cX6_pass 16 = .ok (.invokespecial 104, 3) := by decide +kernel
theorem dX6_pass_19 : decode cX6_pass 19 = .ok (.athrow, 1) := by decide +kernel
theorem dX6_pass_20 : decode cX6_pass 20 = .ok (.aload_n 0, 1) := by decide +kernel
theorem dX6_pass_21 : decode cX6_pass 21 = .ok (.getfield 129, 3) := by decide +kernel
theorem dX6_pass_24 : decode cX6_pass 24 = .ok (.iload_n 1, 1) := by decide +kernel
theorem dX6_pass_25 : decode cX6_pass 25 = .ok (.iadd, 1) := by decide +kernel
theorem dX6_pass_26 : decode cX6_pass 26 = .ok (.sipush 1000, 3) := by decide +kernel
theorem dX6_pass_29 : decode cX6_pass 29 = .ok (.if_icmp .le 13, 3) := by decide +kernel
theorem dX6_pass_32 : decode cX6_pass 32 = .ok (.new 84, 3) := by decide +kernel
theorem dX6_pass_35 : decode cX6_pass 35 = .ok (.dup, 1) := by decide +kernel
theorem dX6_pass_36 : decode cX6_pass 36 = .ok (.ldc 233, 2) := by decide +kernel
theorem dX6_pass_38 : decode cX6_pass 38 = .ok (.invokespecial 88, 3) := by decide +kernel
theorem dX6_pass_41 : decode cX6_pass 41 = .ok (.athrow, 1) := by decide +kernel
theorem dX6_pass_42 : decode cX6_pass 42 = .ok (.iconst 0, 1) := by decide +kernel
theorem dX6_pass_43 : decode cX6_pass 43 = .ok (.istore_n 2, 1) := by decide +kernel
theorem dX6_pass_44 : decode cX6_pass 44 = .ok (.iconst 0, 1) := by decide +kernel
theorem dX6_pass_45 : decode cX6_pass 45 = .ok (.istore_n 3, 1) := by decide +kernel
theorem dX6_pass_46 : decode cX6_pass 46 = .ok (.iload_n 3, 1) := by decide +kernel
theorem dX6_pass_47 : decode cX6_pass 47 = .ok (.iload_n 1, 1) := by decide +kernel
theorem dX6_pass_48 : decode cX6_pass 48 = .ok (.if_icmp .ge 59, 3) := by decide +kernel
theorem dX6_pass_51 : decode cX6_pass 51 = .ok (.iconst 0, 1) := by decide +kernel
theorem dX6_pass_52 : decode cX6_pass 52 = .ok (.istore 4, 2) := by decide +kernel
theorem dX6_pass_54 : decode cX6_pass 54 = .ok (.iload 4, 2) := by decide +kernel
theorem dX6_pass_56 : decode cX6_pass 56 = .ok (.iconst 2, 1) := by decide +kernel
theorem dX6_pass_57 : decode cX6_pass 57 = .ok (.if_icmp .ge 18, 3) := by decide +kernel
theorem dX6_pass_60 : decode cX6_pass 60 = .ok (.iload_n 2, 1) := by decide +kernel
theorem dX6_pass_61 : decode cX6_pass 61 = .ok (.aload_n 0, 1) := by decide +kernel
theorem dX6_pass_62 : decode cX6_pass 62 = .ok (.iload 4, 2) := by decide +kernel
theorem dX6_pass_64 : decode cX6_pass 64 = .ok (.invokevirtual 235, 3) := by decide +kernel
theorem dX6_pass_67 : decode cX6_pass 67 = .ok (.iadd, 1) := by decide +kernel
theorem dX6_pass_68 : decode cX6_pass 68 = .ok (.istore_n 2, 1) := by decide +kernel
theorem dX6_pass_69 : decode cX6_pass 69 = .ok (.iinc 4 1, 3) := by decide +kernel
theorem dX6_pass_72 : decode cX6_pass 72 = .ok (.goto (-18), 3) := by decide +kernel
theorem dX6_pass_75 : decode cX6_pass 75 = .ok (.aload_n 0, 1) := by decide +kernel
theorem dX6_pass_76 : decode cX6_pass 76 = .ok (.dup, 1) := by decide +kernel
theorem dX6_pass_77 : decode cX6_pass 77 = .ok (.getfield 238, 3) := by decide +kernel
theorem dX6_pass_80 : decode cX6_pass 80 = .ok (.bipush 25, 2) := by decide +kernel
theorem dX6_pass_82 : decode cX6_pass 82 = .ok (.aload_n 0, 1) := by decide +kernel
theorem dX6_pass_83 : decode cX6_pass 83 = .ok (.invokevirtual 241, 3) := by decide +kernel
theorem dX6_pass_86 : decode cX6_pass 86 = .ok (.iadd, 1) := by decide +kernel
theorem dX6_pass_87 : decode cX6_pass 87 = .ok (.iadd, 1) := by decide +kernel
theorem dX6_pass_88 : decode cX6_pass 88 = .ok (.putfield 238, 3) := by decide +kernel
theorem dX6_pass_91 : decode cX6_pass 91 = .ok (.aload_n 0, 1) := by decide +kernel
theorem dX6_pass_92 : decode cX6_pass 92 = .ok (.dup, 1) := by decide +kernel
theorem dX6_pass_93 : decode cX6_pass 93 = .ok (.getfield 129, 3) := by decide +kernel
theorem dX6_pass_96 : decode cX6_pass 96 = .ok (.iconst 1, 1) := by decide +kernel
theorem dX6_pass_97 : decode cX6_pass 97 = .ok (.iadd, 1) := by decide +kernel
theorem dX6_pass_98 : decode cX6_pass 98 = .ok (.putfield 129, 3) := by decide +kernel
theorem dX6_pass_101 : decode cX6_pass 101 = .ok (.iinc 3 1, 3) := by decide +kernel
theorem dX6_pass_104 : decode cX6_pass 104 = .ok (.goto (-58), 3) := by decide +kernel
theorem dX6_pass_107 : decode cX6_pass 107 = .ok (.iload_n 2, 1) := by decide +kernel
theorem dX6_pass_108 : decode cX6_pass 108 = .ok (.ireturn, 1) := by decide +kernel
def pX6_pass_b54 (K46 : Int32 → Int32 → Int32 → St → Option (Nat × Int32 × St)) (n : Nat) : Int32 → Int32 → Int32 → Int32 → St → Option (Nat × Int32 × St) := Nat.rec (fun _ _ _ _ _ => none) (fun _ K54 x1 x2 x3 x4 v => if 2 ≤ x4 then (bnd (pX6_overdueBoxes v) (fun r5 w6 => K46 x1 x2 (x3 + 1) (sS (sS w6 2 ((v.2 2) + (25 + r5))) 0 (((sS w6 2 ((v.2 2) + (25 + r5))).2 0) + 1)))) else (bnd (pX6_workAnHour x4 v) (fun r8 w9 => K54 x1 (x2 + r8) x3 (x4 + 1) w9))) n
def pX6_pass_b46  (n : Nat) : Int32 → Int32 → Int32 → St → Option (Nat × Int32 × St) := Nat.rec (fun _ _ _ _ => none) (fun _ K46 x1 x2 x3 v => if x1 ≤ x3 then (some (0, x2, v)) else (pX6_pass_b54 K46 100 x1 x2 x3 0 v)) n
def pX6_pass (a1 : Int32) (u : St) : Option (Nat × Int32 × St) := if (pX6_isWithin a1 1 24) = 0 then (some (2, 0, u)) else (if ((u.2 0) + a1) ≤ 1000 then (pX6_pass_b46 100 a1 0 0 u) else (some (3, 0, u)))
set_option maxHeartbeats 4000000 in
set_option maxRecDepth 20000 in
theorem kX6_pass {l : Launch} {D : va_G} {Y : Nat → ClassId} {q : Nat → Nat} {a1 : Int32} {u u1 : St} {k : Nat} {r : Int32} (hX : pX6_pass a1 u = some (k, r, u1)) (hl9 : l.stackTraces = false) : CMt false l yX6_pass cX6_pass 5 (some .int) 7 154 D Y (wC Y q u) (wC Y q u1) [.ref (q 0), .int a1] k r := by
  refine cm_oft (by decide) (Nat.le_of_ble_eq_true rfl) rfl (fun p e s m args below meth c A F hr hlk hT hex => ?_)
  show GW p l e { frames := 7, cells := 1, slots := 6, locals := 154 } s m args below meth c D A 5 0 0 (QT false below args s D (wC Y q u1) A k r) (wC Y q u) 0 [(0, .ref (q 0)), (1, .int a1)] []
  have b54 : ∀ (K46 : Int32 → Int32 → Int32 → St → Option (Nat × Int32 × St)) (hK46 : ∀ (x1 : Int32) (x2 : Int32) (x3 : Int32) (v : St), K46 x1 x2 x3 v = some (k, r, u1) → GW p l e { frames := 7, cells := 1, slots := 6, locals := 154 } s m args below meth c D A 5 0 0 (QT false below args s D (wC Y q u1) A k r) (wC Y q v) 46 [(0, .ref (q 0)), (1, .int x1), (2, .int x2), (3, .int x3)] []) (n : Nat) (x1 : Int32) (x2 : Int32) (x3 : Int32) (x4 : Int32) (v : St), pX6_pass_b54 K46 n x1 x2 x3 x4 v = some (k, r, u1) → GW p l e { frames := 7, cells := 1, slots := 6, locals := 154 } s m args below meth c D A 5 0 0 (QT false below args s D (wC Y q u1) A k r) (wC Y q v) 54 [(0, .ref (q 0)), (1, .int x1), (2, .int x2), (3, .int x3), (4, .int x4)] [] := by
    intro K46 hK46 n
    induction n with
    | zero => intro x1 x2 x3 x4 v hX; cases hX
    | succ n ih =>
      intro x1 x2 x3 x4 v hX
      obtain ⟨K54, eK⟩ : ∃ K : Int32 → Int32 → Int32 → Int32 → St → Option (Nat × Int32 × St), K = pX6_pass_b54 K46 n := ⟨_, rfl⟩
      have hK54 : ∀ (x1 : Int32) (x2 : Int32) (x3 : Int32) (x4 : Int32) (v : St), K54 x1 x2 x3 x4 v = some (k, r, u1) → GW p l e { frames := 7, cells := 1, slots := 6, locals := 154 } s m args below meth c D A 5 0 0 (QT false below args s D (wC Y q u1) A k r) (wC Y q v) 54 [(0, .ref (q 0)), (1, .int x1), (2, .int x2), (3, .int x3), (4, .int x4)] [] := by rw [eK]; exact ih
      have hX : ((if 2 ≤ x4 then (bnd (pX6_overdueBoxes v) (fun r5 w6 => K46 x1 x2 (x3 + 1) (sS (sS w6 2 ((v.2 2) + (25 + r5))) 0 (((sS w6 2 ((v.2 2) + (25 + r5))).2 0) + 1)))) else (bnd (pX6_workAnHour x4 v) (fun r8 w9 => K54 x1 (x2 + r8) x3 (x4 + 1) w9))) : Option (Nat × Int32 × St)) = some (k, r, u1) := by rw [eK]; exact hX
      refine g_iload F dX6_pass_54 4 rfl ?_
      refine g_iconst (v := 2) F dX6_pass_56 (by decide) ?_
      refine g_icmp_ge (tgt := 75) F dX6_pass_57 (by decide) (fun c4 => ?_) (fun c4 => ?_)
      · have hX := if_t hX c4
        refine g_aload_n F dX6_pass_75 0 rfl rfl ?_
        refine g_dup F dX6_pass_76 rfl ?_
        refine G_X6_238 F dX6_pass_77 ?_
        refine g_bipush (v := 25) F dX6_pass_80 (by decide) ?_
        refine g_aload_n F dX6_pass_82 0 rfl rfl ?_
        obtain ⟨r5, w6, hc7, hX⟩ := bnd_s hX
        refine callX6_overdueBoxes F hc7 ml_X6_241 ⟨Nat.le_of_ble_eq_true rfl, Nat.le_of_ble_eq_true rfl⟩ (Nat.le_of_ble_eq_true rfl) dX6_pass_83 ?_
        refine g_iadd F dX6_pass_86 ?_
        refine g_iadd F dX6_pass_87 ?_
        refine P_X6_238 F dX6_pass_88 ?_
        refine g_aload_n F dX6_pass_91 0 rfl rfl ?_
        refine g_dup F dX6_pass_92 rfl ?_
        refine G_X6_129 F dX6_pass_93 ?_
        refine g_iconst (v := 1) F dX6_pass_96 (by decide) ?_
        refine g_iadd F dX6_pass_97 ?_
        refine P_X6_129 F dX6_pass_98 ?_
        refine g_iinc (v := x3 + 1) (lv' := [(3, .int (x3 + 1)), (0, .ref (q 0)), (1, .int x1), (2, .int x2), (4, .int x4)]) F dX6_pass_101 3 rfl rfl (by decide) rfl ?_
        refine g_goto (tgt := 46) F dX6_pass_104 (by decide) ?_
        refine g_sub [1, 2, 3, 0] rfl ?_
        exact hK46 x1 x2 (x3 + 1) (sS (sS w6 2 ((v.2 2) + (25 + r5))) 0 (((sS w6 2 ((v.2 2) + (25 + r5))).2 0) + 1)) hX
      · have hX := if_f hX c4
        refine g_iload_n F dX6_pass_60 2 rfl rfl ?_
        refine g_aload_n F dX6_pass_61 0 rfl rfl ?_
        refine g_iload F dX6_pass_62 4 rfl ?_
        obtain ⟨r8, w9, hc10, hX⟩ := bnd_s hX
        refine callX6_workAnHour F hc10 ml_X6_235 ⟨Nat.le_of_ble_eq_true rfl, Nat.le_of_ble_eq_true rfl⟩ (Nat.le_of_ble_eq_true rfl) dX6_pass_64 ?_
        refine g_iadd F dX6_pass_67 ?_
        refine g_istore_n (lv' := [(2, .int (x2 + r8)), (0, .ref (q 0)), (1, .int x1), (3, .int x3), (4, .int x4)]) F dX6_pass_68 rfl (by decide) rfl ?_
        refine g_iinc (v := x4 + 1) (lv' := [(4, .int (x4 + 1)), (2, .int (x2 + r8)), (0, .ref (q 0)), (1, .int x1), (3, .int x3)]) F dX6_pass_69 4 rfl rfl (by decide) rfl ?_
        refine g_goto (tgt := 54) F dX6_pass_72 (by decide) ?_
        refine g_sub [2, 3, 1, 4, 0] rfl ?_
        exact hK54 x1 (x2 + r8) x3 (x4 + 1) w9 hX
  have b46 : ∀  (n : Nat) (x1 : Int32) (x2 : Int32) (x3 : Int32) (v : St), pX6_pass_b46  n x1 x2 x3 v = some (k, r, u1) → GW p l e { frames := 7, cells := 1, slots := 6, locals := 154 } s m args below meth c D A 5 0 0 (QT false below args s D (wC Y q u1) A k r) (wC Y q v) 46 [(0, .ref (q 0)), (1, .int x1), (2, .int x2), (3, .int x3)] [] := by
    intro  n
    induction n with
    | zero => intro x1 x2 x3 v hX; cases hX
    | succ n ih =>
      intro x1 x2 x3 v hX
      obtain ⟨K46, eK⟩ : ∃ K : Int32 → Int32 → Int32 → St → Option (Nat × Int32 × St), K = pX6_pass_b46  n := ⟨_, rfl⟩
      have hK46 : ∀ (x1 : Int32) (x2 : Int32) (x3 : Int32) (v : St), K46 x1 x2 x3 v = some (k, r, u1) → GW p l e { frames := 7, cells := 1, slots := 6, locals := 154 } s m args below meth c D A 5 0 0 (QT false below args s D (wC Y q u1) A k r) (wC Y q v) 46 [(0, .ref (q 0)), (1, .int x1), (2, .int x2), (3, .int x3)] [] := by rw [eK]; exact ih
      have hX : ((if x1 ≤ x3 then (some (0, x2, v)) else (pX6_pass_b54 K46 100 x1 x2 x3 0 v)) : Option (Nat × Int32 × St)) = some (k, r, u1) := by rw [eK]; exact hX
      refine g_iload_n F dX6_pass_46 3 rfl rfl ?_
      refine g_iload_n F dX6_pass_47 1 rfl rfl ?_
      refine g_icmp_ge (tgt := 107) F dX6_pass_48 (by decide) (fun c3 => ?_) (fun c3 => ?_)
      · have hX := if_t hX c3
        refine g_iload_n F dX6_pass_107 2 rfl rfl ?_
        exact g_retT (wf := wC Y q) F hr rfl hlk dX6_pass_108 hX
      · have hX := if_f hX c3
        refine g_iconst (v := 0) F dX6_pass_51 (by decide) ?_
        refine g_istore (lv' := [(4, .int 0), (0, .ref (q 0)), (1, .int x1), (2, .int x2), (3, .int x3)]) F dX6_pass_52 (by decide) rfl ?_
        refine g_sub [1, 2, 3, 4, 0] rfl ?_
        exact b54 K46 hK46 100 x1 x2 x3 0 v hX
  have hX : ((if (pX6_isWithin a1 1 24) = 0 then (some (2, 0, u)) else (if ((u.2 0) + a1) ≤ 1000 then (pX6_pass_b46 100 a1 0 0 u) else (some (3, 0, u)))) : Option (Nat × Int32 × St)) = some (k, r, u1) := hX
  refine g_iload_n F dX6_pass_0 1 rfl rfl ?_
  refine g_iconst (v := 1) F dX6_pass_1 (by decide) ?_
  refine g_bipush (v := 24) F dX6_pass_2 (by decide) ?_
  refine callX6_isWithin F ml_X6_96 ⟨Nat.le_of_ble_eq_true rfl, Nat.le_of_ble_eq_true rfl⟩ (Nat.le_of_ble_eq_true rfl) dX6_pass_4 ?_
  refine g_if_ne (tgt := 20) F dX6_pass_7 (by decide) (fun c1 => ?_) (fun c1 => ?_)
  · have hX := if_f hX c1
    refine g_aload_n F dX6_pass_20 0 rfl rfl ?_
    refine G_X6_129 F dX6_pass_21 ?_
    refine g_iload_n F dX6_pass_24 1 rfl rfl ?_
    refine g_iadd F dX6_pass_25 ?_
    refine g_sipush (v := 1000) F dX6_pass_26 (by decide) ?_
    refine g_icmp_le (tgt := 42) F dX6_pass_29 (by decide) (fun c2 => ?_) (fun c2 => ?_)
    · have hX := if_t hX c2
      refine g_iconst (v := 0) F dX6_pass_42 (by decide) ?_
      refine g_istore_n (lv' := [(2, .int 0), (0, .ref (q 0)), (1, .int a1)]) F dX6_pass_43 rfl (by decide) rfl ?_
      refine g_iconst (v := 0) F dX6_pass_44 (by decide) ?_
      refine g_istore_n (lv' := [(3, .int 0), (2, .int 0), (0, .ref (q 0)), (1, .int a1)]) F dX6_pass_45 rfl (by decide) rfl ?_
      refine g_sub [2, 3, 1, 0] rfl ?_
      exact b46 100 a1 0 0 u hX
    · have hX := if_f hX c2
      exact g_throwS F hl9 hT hex hlk (kc := 3) (is := 233) (text := "the hour would be above 1000") cl_X6_84 in_IllegalStateException (List.mem_of_getElem? (i := 23) rfl) at_88 (by decide) (by decide +kernel) dX6_pass_32 dX6_pass_35 dX6_pass_36 dX6_pass_38 dX6_pass_41 ⟨Nat.le_of_ble_eq_true rfl, Nat.le_of_ble_eq_true rfl, Nat.le_refl _, Nat.le_refl _⟩ hX
  · have hX := if_t hX c1
    exact g_throwS F hl9 hT hex hlk (kc := 2) (is := 124) (text := "hours is out of range") cl_X6_100 in_IllegalArgumentException (List.mem_of_getElem? (i := 5) rfl) at_104 (by decide) (by decide +kernel) dX6_pass_10 dX6_pass_13 dX6_pass_14 dX6_pass_16 dX6_pass_19 ⟨Nat.le_of_ble_eq_true rfl, Nat.le_of_ble_eq_true rfl, Nat.le_refl _, Nat.le_refl _⟩ hX
theorem dX6_leave_0 : decode cX6_leave 0 = .ok (.aload_n 0, 1) := by decide +kernel
theorem dX6_leave_1 : decode cX6_leave 1 = .ok (.invokevirtual 245, 3) := by decide +kernel
theorem dX6_leave_4 : decode cX6_leave 4 = .ok (.ifCond .eq 13, 3) := by decide +kernel
theorem dX6_leave_7 : decode cX6_leave 7 = .ok (.new 84, 3) := by decide +kernel
theorem dX6_leave_10 : decode cX6_leave 10 = .ok (.dup, 1) := by decide +kernel
theorem dX6_leave_11 : decode cX6_leave 11 = .ok (.ldc 248, 2) := by decide +kernel
theorem dX6_leave_13 : decode cX6_leave 13 = .ok (.invokespecial 88, 3) := by decide +kernel
theorem dX6_leave_16 : decode cX6_leave 16 = .ok (.athrow, 1) := by decide +kernel
theorem dX6_leave_17 : decode cX6_leave 17 = .ok (.iconst 0, 1) := by decide +kernel
theorem dX6_leave_18 : decode cX6_leave 18 = .ok (.istore_n 1, 1) := by decide +kernel
theorem dX6_leave_19 : decode cX6_leave 19 = .ok (.iload_n 1, 1) := by decide +kernel
theorem dX6_leave_20 : decode cX6_leave 20 = .ok (.aload_n 0, 1) := by decide +kernel
theorem dX6_leave_21 : decode cX6_leave 21 = .ok (.getfield 10, 3) := by decide +kernel
theorem dX6_leave_24 : decode cX6_leave 24 = .ok (.getfield 169, 3) := by decide +kernel
theorem dX6_leave_27 : decode cX6_leave 27 = .ok (.if_icmp .ge 33, 3) := by decide +kernel
theorem dX6_leave_30 : decode cX6_leave 30 = .ok (.aload_n 0, 1) := by decide +kernel
theorem dX6_leave_31 : decode cX6_leave 31 = .ok (.getfield 10, 3) := by decide +kernel
theorem dX6_leave_34 : decode cX6_leave 34 = .ok (.getfield 210, 3) := by decide +kernel
theorem dX6_leave_37 : decode cX6_leave 37 = .ok (.iload_n 1, 1) := by decide +kernel
theorem dX6_leave_38 : decode cX6_leave 38 = .ok (.invokevirtual 81, 3) := by decide +kernel
theorem dX6_leave_41 : decode cX6_leave 41 = .ok (.ifCond .ne 13, 3) := by decide +kernel
theorem dX6_leave_44 : decode cX6_leave 44 = .ok (.aload_n 0, 1) := by decide +kernel
theorem dX6_leave_45 : decode cX6_leave 45 = .ok (.getfield 10, 3) := by decide +kernel
theorem dX6_leave_48 : decode cX6_leave 48 = .ok (.iload_n 1, 1) := by decide +kernel
theorem dX6_leave_49 : decode cX6_leave 49 = .ok (.iconst 2, 1) := by decide +kernel
theorem dX6_leave_50 : decode cX6_leave 50 = .ok (.iconst (-1), 1) := by decide +kernel
theorem dX6_leave_51 : decode cX6_leave 51 = .ok (.invokevirtual 250, 3) := by decide +kernel
theorem dX6_leave_54 : decode cX6_leave 54 = .ok (.iinc 1 1, 3) := by decide +kernel
theorem dX6_leave_57 : decode cX6_leave 57 = .ok (.goto (-38), 3) := by decide +kernel
theorem dX6_leave_60 : decode cX6_leave 60 = .ok (.aload_n 0, 1) := by decide +kernel
theorem dX6_leave_61 : decode cX6_leave 61 = .ok (.getfield 19, 3) := by decide +kernel
theorem dX6_leave_64 : decode cX6_leave 64 = .ok (.invokevirtual 253, 3) := by decide +kernel
theorem dX6_leave_67 : decode cX6_leave 67 = .ok (.aload_n 0, 1) := by decide +kernel
theorem dX6_leave_68 : decode cX6_leave 68 = .ok (.getfield 33, 3) := by decide +kernel
theorem dX6_leave_71 : decode cX6_leave 71 = .ok (.iconst 0, 1) := by decide +kernel
theorem dX6_leave_72 : decode cX6_leave 72 = .ok (.putfield 218, 3) := by decide +kernel
theorem dX6_leave_75 : decode cX6_leave 75 = .ok (.aload_n 0, 1) := by decide +kernel
theorem dX6_leave_76 : decode cX6_leave 76 = .ok (.aload_n 0, 1) := by decide +kernel
theorem dX6_leave_77 : decode cX6_leave 77 = .ok (.aload_n 0, 1) := by decide +kernel
theorem dX6_leave_78 : decode cX6_leave 78 = .ok (.getfield 256, 3) := by decide +kernel
theorem dX6_leave_81 : decode cX6_leave 81 = .ok (.invokevirtual 207, 3) := by decide +kernel
theorem dX6_leave_84 : decode cX6_leave 84 = .ok (.putfield 256, 3) := by decide +kernel
theorem dX6_leave_87 : decode cX6_leave 87 = .ok (.aload_n 0, 1) := by decide +kernel
theorem dX6_leave_88 : decode cX6_leave 88 = .ok (.getfield 256, 3) := by decide +kernel
theorem dX6_leave_91 : decode cX6_leave 91 = .ok (.ireturn, 1) := by decide +kernel
def pX6_leave_b54 (K19 : Int32 → St → Option (Nat × Int32 × St)) (x1 : Int32) (v : St) : Option (Nat × Int32 × St) := K19 (x1 + 1) v
def pX6_leave_b19  (n : Nat) : Int32 → St → Option (Nat × Int32 × St) := Nat.rec (fun _ _ => none) (fun _ K19 x1 v => if (v.2 6) ≤ x1 then (bnd (pX5_clear v) (fun r6 w7 => bnd (pX6_portBehind ((sS w7 8 0).2 1) (sS w7 8 0)) (fun r9 w10 => some (0, (sS w10 1 r9).2 1, sS w10 1 r9)))) else (if (rg v 5 x1) = 0 then (bnd (pX0_move x1 2 ((-1)) v) (fun r13 w14 => pX6_leave_b54 K19 x1 w14)) else (pX6_leave_b54 K19 x1 v))) n
def pX6_leave  (u : St) : Option (Nat × Int32 × St) := bnd (pX6_bars u) (fun r1 w2 => if r1 = 0 then (pX6_leave_b19 100 0 w2) else (some (3, 0, w2)))
set_option maxHeartbeats 4000000 in
set_option maxRecDepth 20000 in
theorem kX6_leave {l : Launch} {D : va_G} {Y : Nat → ClassId} {q : Nat → Nat} {u u1 : St} {k : Nat} {r : Int32} (hX : pX6_leave u = some (k, r, u1)) (hl9 : l.stackTraces = false) : CMt false l yX6_leave cX6_leave 2 (some .int) 6 90 D Y (wC Y q u) (wC Y q u1) [.ref (q 0)] k r := by
  refine cm_oft (by decide) (Nat.le_of_ble_eq_true rfl) rfl (fun p e s m args below meth c A F hr hlk hT hex => ?_)
  show GW p l e { frames := 6, cells := 1, slots := 6, locals := 90 } s m args below meth c D A 2 0 0 (QT false below args s D (wC Y q u1) A k r) (wC Y q u) 0 [(0, .ref (q 0))] []
  have b54 : ∀ (K19 : Int32 → St → Option (Nat × Int32 × St)) (hK19 : ∀ (x1 : Int32) (v : St), K19 x1 v = some (k, r, u1) → GW p l e { frames := 6, cells := 1, slots := 6, locals := 90 } s m args below meth c D A 2 0 0 (QT false below args s D (wC Y q u1) A k r) (wC Y q v) 19 [(0, .ref (q 0)), (1, .int x1)] []) (x1 : Int32) (v : St), pX6_leave_b54 K19 x1 v = some (k, r, u1) → GW p l e { frames := 6, cells := 1, slots := 6, locals := 90 } s m args below meth c D A 2 0 0 (QT false below args s D (wC Y q u1) A k r) (wC Y q v) 54 [(0, .ref (q 0)), (1, .int x1)] [] := by
    intro K19 hK19 x1 v hX
    have hX : ((K19 (x1 + 1) v) : Option (Nat × Int32 × St)) = some (k, r, u1) := hX
    refine g_iinc (v := x1 + 1) (lv' := [(1, .int (x1 + 1)), (0, .ref (q 0))]) F dX6_leave_54 1 rfl rfl (by decide) rfl ?_
    refine g_goto (tgt := 19) F dX6_leave_57 (by decide) ?_
    refine g_sub [1, 0] rfl ?_
    exact hK19 (x1 + 1) v hX
  have b19 : ∀  (n : Nat) (x1 : Int32) (v : St), pX6_leave_b19  n x1 v = some (k, r, u1) → GW p l e { frames := 6, cells := 1, slots := 6, locals := 90 } s m args below meth c D A 2 0 0 (QT false below args s D (wC Y q u1) A k r) (wC Y q v) 19 [(0, .ref (q 0)), (1, .int x1)] [] := by
    intro  n
    induction n with
    | zero => intro x1 v hX; cases hX
    | succ n ih =>
      intro x1 v hX
      obtain ⟨K19, eK⟩ : ∃ K : Int32 → St → Option (Nat × Int32 × St), K = pX6_leave_b19  n := ⟨_, rfl⟩
      have hK19 : ∀ (x1 : Int32) (v : St), K19 x1 v = some (k, r, u1) → GW p l e { frames := 6, cells := 1, slots := 6, locals := 90 } s m args below meth c D A 2 0 0 (QT false below args s D (wC Y q u1) A k r) (wC Y q v) 19 [(0, .ref (q 0)), (1, .int x1)] [] := by rw [eK]; exact ih
      have hX : ((if (v.2 6) ≤ x1 then (bnd (pX5_clear v) (fun r6 w7 => bnd (pX6_portBehind ((sS w7 8 0).2 1) (sS w7 8 0)) (fun r9 w10 => some (0, (sS w10 1 r9).2 1, sS w10 1 r9)))) else (if (rg v 5 x1) = 0 then (bnd (pX0_move x1 2 ((-1)) v) (fun r13 w14 => pX6_leave_b54 K19 x1 w14)) else (pX6_leave_b54 K19 x1 v))) : Option (Nat × Int32 × St)) = some (k, r, u1) := by rw [eK]; exact hX
      refine g_iload_n F dX6_leave_19 1 rfl rfl ?_
      refine g_aload_n F dX6_leave_20 0 rfl rfl ?_
      refine G_X6_10 F dX6_leave_21 ?_
      refine G_X6_169 F dX6_leave_24 ?_
      refine g_icmp_ge (tgt := 60) F dX6_leave_27 (by decide) (fun c5 => ?_) (fun c5 => ?_)
      · have hX := if_t hX c5
        refine g_aload_n F dX6_leave_60 0 rfl rfl ?_
        refine G_X6_19 F dX6_leave_61 ?_
        obtain ⟨r6, w7, hc8, hX⟩ := bnd_s hX
        refine callX5_clear F hc8 ml_X6_253 ⟨Nat.le_of_ble_eq_true rfl, Nat.le_of_ble_eq_true rfl⟩ (Nat.le_of_ble_eq_true rfl) dX6_leave_64 ?_
        refine g_aload_n F dX6_leave_67 0 rfl rfl ?_
        refine G_X6_33 F dX6_leave_68 ?_
        refine g_iconst (v := 0) F dX6_leave_71 (by decide) ?_
        refine P_X6_218 F dX6_leave_72 ?_
        refine g_aload_n F dX6_leave_75 0 rfl rfl ?_
        refine g_aload_n F dX6_leave_76 0 rfl rfl ?_
        refine g_aload_n F dX6_leave_77 0 rfl rfl ?_
        refine G_X6_256 F dX6_leave_78 ?_
        obtain ⟨r9, w10, hc11, hX⟩ := bnd_s hX
        refine callX6_portBehind F hc11 ml_X6_207 ⟨Nat.le_of_ble_eq_true rfl, Nat.le_of_ble_eq_true rfl⟩ (Nat.le_of_ble_eq_true rfl) dX6_leave_81 ?_
        refine P_X6_256 F dX6_leave_84 ?_
        refine g_aload_n F dX6_leave_87 0 rfl rfl ?_
        refine G_X6_256 F dX6_leave_88 ?_
        exact g_retT (wf := wC Y q) F hr rfl hlk dX6_leave_91 hX
      · have hX := if_f hX c5
        refine g_aload_n F dX6_leave_30 0 rfl rfl ?_
        refine G_X6_10 F dX6_leave_31 ?_
        refine G_X6_210 F dX6_leave_34 ?_
        refine g_iload_n F dX6_leave_37 1 rfl rfl ?_
        refine C_rget F 5 (by decide) ml_X6_81 ⟨Nat.le_of_ble_eq_true rfl, Nat.le_of_ble_eq_true rfl⟩ (Nat.le_of_ble_eq_true rfl) dX6_leave_38 ?_
        refine g_if_ne (tgt := 54) F dX6_leave_41 (by decide) (fun c12 => ?_) (fun c12 => ?_)
        · have hX := if_f hX c12
          exact b54 K19 hK19 x1 v hX
        · have hX := if_t hX c12
          refine g_aload_n F dX6_leave_44 0 rfl rfl ?_
          refine G_X6_10 F dX6_leave_45 ?_
          refine g_iload_n F dX6_leave_48 1 rfl rfl ?_
          refine g_iconst (v := 2) F dX6_leave_49 (by decide) ?_
          refine g_iconst (v := (-1)) F dX6_leave_50 (by decide) ?_
          obtain ⟨r13, w14, hc15, hX⟩ := bnd_s hX
          refine callX0_move F hc15 ml_X6_250 ⟨Nat.le_of_ble_eq_true rfl, Nat.le_of_ble_eq_true rfl⟩ (Nat.le_of_ble_eq_true rfl) dX6_leave_51 ?_
          exact b54 K19 hK19 x1 w14 hX
  have hX : ((bnd (pX6_bars u) (fun r1 w2 => if r1 = 0 then (pX6_leave_b19 100 0 w2) else (some (3, 0, w2)))) : Option (Nat × Int32 × St)) = some (k, r, u1) := hX
  refine g_aload_n F dX6_leave_0 0 rfl rfl ?_
  obtain ⟨r1, w2, hc3, hX⟩ := bnd_s hX
  refine callX6_bars F hc3 ml_X6_245 ⟨Nat.le_of_ble_eq_true rfl, Nat.le_of_ble_eq_true rfl⟩ (Nat.le_of_ble_eq_true rfl) dX6_leave_1 ?_
  refine g_if_eq (tgt := 17) F dX6_leave_4 (by decide) (fun c4 => ?_) (fun c4 => ?_)
  · have hX := if_t hX c4
    refine g_iconst (v := 0) F dX6_leave_17 (by decide) ?_
    refine g_istore_n (lv' := [(1, .int 0), (0, .ref (q 0))]) F dX6_leave_18 rfl (by decide) rfl ?_
    refine g_sub [1, 0] rfl ?_
    exact b19 100 0 w2 hX
  · have hX := if_f hX c4
    exact g_throwS F hl9 hT hex hlk (kc := 3) (is := 248) (text := "she cannot leave") cl_X6_84 in_IllegalStateException (List.mem_of_getElem? (i := 24) rfl) at_88 (by decide) (by decide +kernel) dX6_leave_7 dX6_leave_10 dX6_leave_11 dX6_leave_13 dX6_leave_16 ⟨Nat.le_of_ble_eq_true rfl, Nat.le_of_ble_eq_true rfl, Nat.le_refl _, Nat.le_refl _⟩ hX
theorem dX6_of_0 : decode cX6_of 0 = .ok (.aload_n 0, 1) := by decide +kernel
theorem dX6_of_1 : decode cX6_of 1 = .ok (.iload_n 1, 1) := by decide +kernel
theorem dX6_of_2 : decode cX6_of 2 = .ok (.invokevirtual 187, 3) := by decide +kernel
theorem dX6_of_5 : decode cX6_of 5 = .ok (.ifCond .ne 13, 3) := by decide +kernel
theorem dX6_of_8 : decode cX6_of 8 = .ok (.new 67, 3) := by decide +kernel
theorem dX6_of_11 : decode cX6_of 11 = .ok (.dup, 1) := by decide +kernel
theorem dX6_of_12 : decode cX6_of 12 = .ok (.ldc 190, 2) := by decide +kernel
theorem dX6_of_14 : decode cX6_of 14 = .ok (.invokespecial 71, 3) := by decide +kernel
theorem dX6_of_17 : decode cX6_of 17 = .ok (.athrow, 1) := by decide +kernel
theorem dX6_of_18 : decode cX6_of 18 = .ok (.iload_n 2, 1) := by decide +kernel
theorem dX6_of_19 : decode cX6_of 19 = .ok (.iconst 0, 1) := by decide +kernel
theorem dX6_of_20 : decode cX6_of 20 = .ok (.bipush 6, 2) := by decide +kernel
theorem dX6_of_22 : decode cX6_of 22 = .ok (.invokestatic 96, 3) := by decide +kernel
theorem dX6_of_25 : decode cX6_of 25 = .ok (.ifCond .ne 13, 3) := by decide +kernel
theorem dX6_of_28 : decode cX6_of 28 = .ok (.new 100, 3) := by decide +kernel
theorem dX6_of_31 : decode cX6_of 31 = .ok (.dup, 1) := by decide +kernel
theorem dX6_of_32 : decode cX6_of 32 = .ok (.ldc 216, 2) := by decide +kernel
theorem dX6_of_34 : decode cX6_of 34 = .ok (.invokespecial 104, 3) := by decide +kernel
theorem dX6_of_37 : decode cX6_of 37 = .ok (.athrow, 1) := by decide +kernel
theorem dX6_of_38 : decode cX6_of 38 = .ok (.iload_n 2, 1) := by decide +kernel
theorem dX6_of_39 : decode cX6_of 39 = .ok (.tableswitch 114 0 5 #[37, 49, 61, 73, 90, 102], 37) := by decide +kernel
theorem dX6_of_76 : decode cX6_of 76 = .ok (.aload_n 0, 1) := by decide +kernel
theorem dX6_of_77 : decode cX6_of 77 = .ok (.getfield 10, 3) := by decide +kernel
theorem dX6_of_80 : decode cX6_of 80 = .ok (.getfield 258, 3) := by decide +kernel
theorem dX6_of_83 : decode cX6_of 83 = .ok (.iload_n 1, 1) := by decide +kernel
theorem dX6_of_84 : decode cX6_of 84 = .ok (.invokevirtual 81, 3) := by decide +kernel
theorem dX6_of_87 : decode cX6_of 87 = .ok (.ireturn, 1) := by decide +kernel
theorem dX6_of_88 : decode cX6_of 88 = .ok (.aload_n 0, 1) := by decide +kernel
theorem dX6_of_89 : decode cX6_of 89 = .ok (.getfield 10, 3) := by decide +kernel
theorem dX6_of_92 : decode cX6_of 92 = .ok (.getfield 213, 3) := by decide +kernel
theorem dX6_of_95 : decode cX6_of 95 = .ok (.iload_n 1, 1) := by decide +kernel
theorem dX6_of_96 : decode cX6_of 96 = .ok (.invokevirtual 81, 3) := by decide +kernel
theorem dX6_of_99 : decode cX6_of 99 = .ok (.ireturn, 1) := by decide +kernel
theorem dX6_of_100 : decode cX6_of 100 = .ok (.aload_n 0, 1) := by decide +kernel
theorem dX6_of_101 : decode cX6_of 101 = .ok (.getfield 10, 3) := by decide +kernel
theorem dX6_of_104 : decode cX6_of 104 = .ok (.getfield 78, 3) := by decide +kernel
theorem dX6_of_107 : decode cX6_of 107 = .ok (.iload_n 1, 1) := by decide +kernel
theorem dX6_of_108 : decode cX6_of 108 = .ok (.invokevirtual 81, 3) := by decide +kernel
theorem dX6_of_111 : decode cX6_of 111 = .ok (.ireturn, 1) := by decide +kernel
theorem dX6_of_112 : decode cX6_of 112 = .ok (.aload_n 0, 1) := by decide +kernel
theorem dX6_of_113 : decode cX6_of 113 = .ok (.getfield 10, 3) := by decide +kernel
theorem dX6_of_116 : decode cX6_of 116 = .ok (.iload_n 1, 1) := by decide +kernel
theorem dX6_of_117 : decode cX6_of 117 = .ok (.invokevirtual 197, 3) := by decide +kernel
theorem dX6_of_120 : decode cX6_of 120 = .ok (.ifCond .eq 7, 3) := by decide +kernel
theorem dX6_of_123 : decode cX6_of 123 = .ok (.iconst 1, 1) := by decide +kernel
theorem dX6_of_124 : decode cX6_of 124 = .ok (.goto 4, 3) := by decide +kernel
theorem dX6_of_127 : decode cX6_of 127 = .ok (.iconst 0, 1) := by decide +kernel
theorem dX6_of_128 : decode cX6_of 128 = .ok (.ireturn, 1) := by decide +kernel
theorem dX6_of_129 : decode cX6_of 129 = .ok (.aload_n 0, 1) := by decide +kernel
theorem dX6_of_130 : decode cX6_of 130 = .ok (.getfield 10, 3) := by decide +kernel
theorem dX6_of_133 : decode cX6_of 133 = .ok (.getfield 210, 3) := by decide +kernel
theorem dX6_of_136 : decode cX6_of 136 = .ok (.iload_n 1, 1) := by decide +kernel
theorem dX6_of_137 : decode cX6_of 137 = .ok (.invokevirtual 81, 3) := by decide +kernel
theorem dX6_of_140 : decode cX6_of 140 = .ok (.ireturn, 1) := by decide +kernel
theorem dX6_of_141 : decode cX6_of 141 = .ok (.aload_n 0, 1) := by decide +kernel
theorem dX6_of_142 : decode cX6_of 142 = .ok (.getfield 10, 3) := by decide +kernel
theorem dX6_of_145 : decode cX6_of 145 = .ok (.getfield 261, 3) := by decide +kernel
theorem dX6_of_148 : decode cX6_of 148 = .ok (.iload_n 1, 1) := by decide +kernel
theorem dX6_of_149 : decode cX6_of 149 = .ok (.invokevirtual 81, 3) := by decide +kernel
theorem dX6_of_152 : decode cX6_of 152 = .ok (.ireturn, 1) := by decide +kernel
theorem dX6_of_153 : decode cX6_of 153 = .ok (.aload_n 0, 1) := by decide +kernel
theorem dX6_of_154 : decode cX6_of 154 = .ok (.iload_n 1, 1) := by decide +kernel
theorem dX6_of_155 : decode cX6_of 155 = .ok (.invokevirtual 264, 3) := by decide +kernel
theorem dX6_of_158 : decode cX6_of 158 = .ok (.ireturn, 1) := by decide +kernel
def pX6_of (a1 : Int32) (a2 : Int32) (u : St) : Option (Nat × Int32 × St) := bnd (pX6_isBox a1 u) (fun r1 w2 => if r1 = 0 then (some (1, 0, w2)) else (if (pX6_isWithin a2 0 6) = 0 then (some (2, 0, w2)) else (if a2 = 0 then (some (0, rg w2 0 a1, w2)) else (if a2 = 1 then (some (0, rg w2 2 a1, w2)) else (if a2 = 2 then (some (0, rg w2 3 a1, w2)) else (if a2 = 3 then (bnd (pX0_isHeld a1 w2) (fun r9 w10 => if r9 = 0 then (some (0, 0, w10)) else (some (0, 1, w10)))) else (if a2 = 4 then (some (0, rg w2 5 a1, w2)) else (if a2 = 5 then (some (0, rg w2 6 a1, w2)) else (bnd (pX6_boxesOn a1 w2) (fun r16 w17 => some (0, r16, w17)))))))))))
set_option maxHeartbeats 4000000 in
set_option maxRecDepth 20000 in
theorem kX6_of {l : Launch} {D : va_G} {Y : Nat → ClassId} {q : Nat → Nat} {a1 a2 : Int32} {u u1 : St} {k : Nat} {r : Int32} (hX : pX6_of a1 a2 u = some (k, r, u1)) (hl9 : l.stackTraces = false) : CMt false l yX6_of cX6_of 3 (some .int) 6 90 D Y (wC Y q u) (wC Y q u1) [.ref (q 0), .int a1, .int a2] k r := by
  refine cm_oft (by decide) (Nat.le_of_ble_eq_true rfl) rfl (fun p e s m args below meth c A F hr hlk hT hex => ?_)
  show GW p l e { frames := 6, cells := 1, slots := 6, locals := 90 } s m args below meth c D A 3 0 0 (QT false below args s D (wC Y q u1) A k r) (wC Y q u) 0 [(0, .ref (q 0)), (1, .int a1), (2, .int a2)] []
  have hX : ((bnd (pX6_isBox a1 u) (fun r1 w2 => if r1 = 0 then (some (1, 0, w2)) else (if (pX6_isWithin a2 0 6) = 0 then (some (2, 0, w2)) else (if a2 = 0 then (some (0, rg w2 0 a1, w2)) else (if a2 = 1 then (some (0, rg w2 2 a1, w2)) else (if a2 = 2 then (some (0, rg w2 3 a1, w2)) else (if a2 = 3 then (bnd (pX0_isHeld a1 w2) (fun r9 w10 => if r9 = 0 then (some (0, 0, w10)) else (some (0, 1, w10)))) else (if a2 = 4 then (some (0, rg w2 5 a1, w2)) else (if a2 = 5 then (some (0, rg w2 6 a1, w2)) else (bnd (pX6_boxesOn a1 w2) (fun r16 w17 => some (0, r16, w17)))))))))))) : Option (Nat × Int32 × St)) = some (k, r, u1) := hX
  refine g_aload_n F dX6_of_0 0 rfl rfl ?_
  refine g_iload_n F dX6_of_1 1 rfl rfl ?_
  obtain ⟨r1, w2, hc3, hX⟩ := bnd_s hX
  refine callX6_isBox F hc3 ml_X6_187 ⟨Nat.le_of_ble_eq_true rfl, Nat.le_of_ble_eq_true rfl⟩ (Nat.le_of_ble_eq_true rfl) dX6_of_2 ?_
  refine g_if_ne (tgt := 18) F dX6_of_5 (by decide) (fun c4 => ?_) (fun c4 => ?_)
  · have hX := if_f hX c4
    refine g_iload_n F dX6_of_18 2 rfl rfl ?_
    refine g_iconst (v := 0) F dX6_of_19 (by decide) ?_
    refine g_bipush (v := 6) F dX6_of_20 (by decide) ?_
    refine callX6_isWithin F ml_X6_96 ⟨Nat.le_of_ble_eq_true rfl, Nat.le_of_ble_eq_true rfl⟩ (Nat.le_of_ble_eq_true rfl) dX6_of_22 ?_
    refine g_if_ne (tgt := 38) F dX6_of_25 (by decide) (fun c5 => ?_) (fun c5 => ?_)
    · have hX := if_f hX c5
      refine g_iload_n F dX6_of_38 2 rfl rfl ?_
      by_cases c6 : a2 = 0
      · have hX := if_t hX c6
        refine g_tabIn (tgt := 76) F dX6_of_39 (by rw [c6]; decide) (by rw [c6]; decide) (by rw [c6]; rfl) (by decide) ?_
        refine g_aload_n F dX6_of_76 0 rfl rfl ?_
        refine G_X6_10 F dX6_of_77 ?_
        refine G_X6_258 F dX6_of_80 ?_
        refine g_iload_n F dX6_of_83 1 rfl rfl ?_
        refine C_rget F 0 (by decide) ml_X6_81 ⟨Nat.le_of_ble_eq_true rfl, Nat.le_of_ble_eq_true rfl⟩ (Nat.le_of_ble_eq_true rfl) dX6_of_84 ?_
        exact g_retT (wf := wC Y q) F hr rfl hlk dX6_of_87 hX
      have hX := if_f hX c6
      by_cases c7 : a2 = 1
      · have hX := if_t hX c7
        refine g_tabIn (tgt := 88) F dX6_of_39 (by rw [c7]; decide) (by rw [c7]; decide) (by rw [c7]; rfl) (by decide) ?_
        refine g_aload_n F dX6_of_88 0 rfl rfl ?_
        refine G_X6_10 F dX6_of_89 ?_
        refine G_X6_213 F dX6_of_92 ?_
        refine g_iload_n F dX6_of_95 1 rfl rfl ?_
        refine C_rget F 2 (by decide) ml_X6_81 ⟨Nat.le_of_ble_eq_true rfl, Nat.le_of_ble_eq_true rfl⟩ (Nat.le_of_ble_eq_true rfl) dX6_of_96 ?_
        exact g_retT (wf := wC Y q) F hr rfl hlk dX6_of_99 hX
      have hX := if_f hX c7
      by_cases c8 : a2 = 2
      · have hX := if_t hX c8
        refine g_tabIn (tgt := 100) F dX6_of_39 (by rw [c8]; decide) (by rw [c8]; decide) (by rw [c8]; rfl) (by decide) ?_
        refine g_aload_n F dX6_of_100 0 rfl rfl ?_
        refine G_X6_10 F dX6_of_101 ?_
        refine G_X6_78 F dX6_of_104 ?_
        refine g_iload_n F dX6_of_107 1 rfl rfl ?_
        refine C_rget F 3 (by decide) ml_X6_81 ⟨Nat.le_of_ble_eq_true rfl, Nat.le_of_ble_eq_true rfl⟩ (Nat.le_of_ble_eq_true rfl) dX6_of_108 ?_
        exact g_retT (wf := wC Y q) F hr rfl hlk dX6_of_111 hX
      have hX := if_f hX c8
      by_cases c13 : a2 = 3
      · have hX := if_t hX c13
        refine g_tabIn (tgt := 112) F dX6_of_39 (by rw [c13]; decide) (by rw [c13]; decide) (by rw [c13]; rfl) (by decide) ?_
        refine g_aload_n F dX6_of_112 0 rfl rfl ?_
        refine G_X6_10 F dX6_of_113 ?_
        refine g_iload_n F dX6_of_116 1 rfl rfl ?_
        obtain ⟨r9, w10, hc11, hX⟩ := bnd_s hX
        refine callX0_isHeld F hc11 ml_X6_197 ⟨Nat.le_of_ble_eq_true rfl, Nat.le_of_ble_eq_true rfl⟩ (Nat.le_of_ble_eq_true rfl) dX6_of_117 ?_
        refine g_if_eq (tgt := 127) F dX6_of_120 (by decide) (fun c12 => ?_) (fun c12 => ?_)
        · have hX := if_t hX c12
          refine g_iconst (v := 0) F dX6_of_127 (by decide) ?_
          exact g_retT (wf := wC Y q) F hr rfl hlk dX6_of_128 hX
        · have hX := if_f hX c12
          refine g_iconst (v := 1) F dX6_of_123 (by decide) ?_
          refine g_goto (tgt := 128) F dX6_of_124 (by decide) ?_
          exact g_retT (wf := wC Y q) F hr rfl hlk dX6_of_128 hX
      have hX := if_f hX c13
      by_cases c14 : a2 = 4
      · have hX := if_t hX c14
        refine g_tabIn (tgt := 129) F dX6_of_39 (by rw [c14]; decide) (by rw [c14]; decide) (by rw [c14]; rfl) (by decide) ?_
        refine g_aload_n F dX6_of_129 0 rfl rfl ?_
        refine G_X6_10 F dX6_of_130 ?_
        refine G_X6_210 F dX6_of_133 ?_
        refine g_iload_n F dX6_of_136 1 rfl rfl ?_
        refine C_rget F 5 (by decide) ml_X6_81 ⟨Nat.le_of_ble_eq_true rfl, Nat.le_of_ble_eq_true rfl⟩ (Nat.le_of_ble_eq_true rfl) dX6_of_137 ?_
        exact g_retT (wf := wC Y q) F hr rfl hlk dX6_of_140 hX
      have hX := if_f hX c14
      by_cases c15 : a2 = 5
      · have hX := if_t hX c15
        refine g_tabIn (tgt := 141) F dX6_of_39 (by rw [c15]; decide) (by rw [c15]; decide) (by rw [c15]; rfl) (by decide) ?_
        refine g_aload_n F dX6_of_141 0 rfl rfl ?_
        refine G_X6_10 F dX6_of_142 ?_
        refine G_X6_261 F dX6_of_145 ?_
        refine g_iload_n F dX6_of_148 1 rfl rfl ?_
        refine C_rget F 6 (by decide) ml_X6_81 ⟨Nat.le_of_ble_eq_true rfl, Nat.le_of_ble_eq_true rfl⟩ (Nat.le_of_ble_eq_true rfl) dX6_of_149 ?_
        exact g_retT (wf := wC Y q) F hr rfl hlk dX6_of_152 hX
      have hX := if_f hX c15
      refine g_tabOut (tgt := 153) F dX6_of_39 (tab_out6 c6 c7 c8 c13 c14 c15) (by decide) ?_
      refine g_aload_n F dX6_of_153 0 rfl rfl ?_
      refine g_iload_n F dX6_of_154 1 rfl rfl ?_
      obtain ⟨r16, w17, hc18, hX⟩ := bnd_s hX
      refine callX6_boxesOn F hc18 ml_X6_264 ⟨Nat.le_of_ble_eq_true rfl, Nat.le_of_ble_eq_true rfl⟩ (Nat.le_of_ble_eq_true rfl) dX6_of_155 ?_
      exact g_retT (wf := wC Y q) F hr rfl hlk dX6_of_158 hX
    · have hX := if_t hX c5
      exact g_throwS F hl9 hT hex hlk (kc := 2) (is := 216) (text := "what is out of range") cl_X6_100 in_IllegalArgumentException (List.mem_of_getElem? (i := 20) rfl) at_104 (by decide) (by decide +kernel) dX6_of_28 dX6_of_31 dX6_of_32 dX6_of_34 dX6_of_37 ⟨Nat.le_of_ble_eq_true rfl, Nat.le_of_ble_eq_true rfl, Nat.le_refl _, Nat.le_refl _⟩ hX
  · have hX := if_t hX c4
    exact g_throwS F hl9 hT hex hlk (kc := 1) (is := 190) (text := "no such box") cl_X6_67 in_IndexOutOfBoundsException (List.mem_of_getElem? (i := 16) rfl) at_71 (by decide) (by decide +kernel) dX6_of_8 dX6_of_11 dX6_of_12 dX6_of_14 dX6_of_17 ⟨Nat.le_of_ble_eq_true rfl, Nat.le_of_ble_eq_true rfl, Nat.le_refl _, Nat.le_refl _⟩ hX
theorem dX6_at_0 : decode cX6_at 0 = .ok (.iload_n 1, 1) := by decide +kernel
theorem dX6_at_1 : decode cX6_at 1 = .ok (.invokestatic 63, 3) := by decide +kernel
theorem dX6_at_4 : decode cX6_at 4 = .ok (.ifCond .ne 13, 3) := by decide +kernel
theorem dX6_at_7 : decode cX6_at 7 = .ok (.new 67, 3) := by decide +kernel
theorem dX6_at_10 : decode cX6_at 10 = .ok (.dup, 1) := by decide +kernel
theorem dX6_at_11 : decode cX6_at 11 = .ok (.ldc 69, 2) := by decide +kernel
theorem dX6_at_13 : decode cX6_at 13 = .ok (.invokespecial 71, 3) := by decide +kernel
theorem dX6_at_16 : decode cX6_at 16 = .ok (.athrow, 1) := by decide +kernel
theorem dX6_at_17 : decode cX6_at 17 = .ok (.aload_n 0, 1) := by decide +kernel
theorem dX6_at_18 : decode cX6_at 18 = .ok (.getfield 26, 3) := by decide +kernel
theorem dX6_at_21 : decode cX6_at 21 = .ok (.iload_n 1, 1) := by decide +kernel
theorem dX6_at_22 : decode cX6_at 22 = .ok (.invokevirtual 74, 3) := by decide +kernel
theorem dX6_at_25 : decode cX6_at 25 = .ok (.ireturn, 1) := by decide +kernel
def pX6_at (a1 : Int32) (u : St) : Option (Nat × Int32 × St) := if (pX6_isSlot a1) = 0 then (some (1, 0, u)) else (bnd (pX4_boxIn a1 u) (fun r2 w3 => some (0, r2, w3)))
set_option maxHeartbeats 4000000 in
set_option maxRecDepth 20000 in
theorem kX6_at {l : Launch} {D : va_G} {Y : Nat → ClassId} {q : Nat → Nat} {a1 : Int32} {u u1 : St} {k : Nat} {r : Int32} (hX : pX6_at a1 u = some (k, r, u1)) (hl9 : l.stackTraces = false) : CMt false l yX6_at cX6_at 2 (some .int) 6 90 D Y (wC Y q u) (wC Y q u1) [.ref (q 0), .int a1] k r := by
  refine cm_oft (by decide) (Nat.le_of_ble_eq_true rfl) rfl (fun p e s m args below meth c A F hr hlk hT hex => ?_)
  show GW p l e { frames := 6, cells := 1, slots := 6, locals := 90 } s m args below meth c D A 2 0 0 (QT false below args s D (wC Y q u1) A k r) (wC Y q u) 0 [(0, .ref (q 0)), (1, .int a1)] []
  have hX : ((if (pX6_isSlot a1) = 0 then (some (1, 0, u)) else (bnd (pX4_boxIn a1 u) (fun r2 w3 => some (0, r2, w3)))) : Option (Nat × Int32 × St)) = some (k, r, u1) := hX
  refine g_iload_n F dX6_at_0 1 rfl rfl ?_
  refine callX6_isSlot F ml_X6_63 ⟨Nat.le_of_ble_eq_true rfl, Nat.le_of_ble_eq_true rfl⟩ (Nat.le_of_ble_eq_true rfl) dX6_at_1 ?_
  refine g_if_ne (tgt := 17) F dX6_at_4 (by decide) (fun c1 => ?_) (fun c1 => ?_)
  · have hX := if_f hX c1
    refine g_aload_n F dX6_at_17 0 rfl rfl ?_
    refine G_X6_26 F dX6_at_18 ?_
    refine g_iload_n F dX6_at_21 1 rfl rfl ?_
    obtain ⟨r2, w3, hc4, hX⟩ := bnd_s hX
    refine callX4_boxIn F hc4 ml_X6_74 ⟨Nat.le_of_ble_eq_true rfl, Nat.le_of_ble_eq_true rfl⟩ (Nat.le_of_ble_eq_true rfl) dX6_at_22 ?_
    exact g_retT (wf := wC Y q) F hr rfl hlk dX6_at_25 hX
  · have hX := if_t hX c1
    exact g_throwS F hl9 hT hex hlk (kc := 1) (is := 69) (text := "no such slot") cl_X6_67 in_IndexOutOfBoundsException (List.mem_of_getElem? (i := 0) rfl) at_71 (by decide) (by decide +kernel) dX6_at_7 dX6_at_10 dX6_at_11 dX6_at_13 dX6_at_16 ⟨Nat.le_of_ble_eq_true rfl, Nat.le_of_ble_eq_true rfl, Nat.le_refl _, Nat.le_refl _⟩ hX
theorem dX6_inYard_0 : decode cX6_inYard 0 = .ok (.iload_n 1, 1) := by decide +kernel
theorem dX6_inYard_1 : decode cX6_inYard 1 = .ok (.invokestatic 158, 3) := by decide +kernel
theorem dX6_inYard_4 : decode cX6_inYard 4 = .ok (.ifCond .ne 13, 3) := by decide +kernel
theorem dX6_inYard_7 : decode cX6_inYard 7 = .ok (.new 67, 3) := by decide +kernel
theorem dX6_inYard_10 : decode cX6_inYard 10 = .ok (.dup, 1) := by decide +kernel
theorem dX6_inYard_11 : decode cX6_inYard 11 = .ok (.ldc 161, 2) := by decide +kernel
theorem dX6_inYard_13 : decode cX6_inYard 13 = .ok (.invokespecial 71, 3) := by decide +kernel
theorem dX6_inYard_16 : decode cX6_inYard 16 = .ok (.athrow, 1) := by decide +kernel
theorem dX6_inYard_17 : decode cX6_inYard 17 = .ok (.iload_n 2, 1) := by decide +kernel
theorem dX6_inYard_18 : decode cX6_inYard 18 = .ok (.ifCond .ge 14, 3) := by decide +kernel
theorem dX6_inYard_21 : decode cX6_inYard 21 = .ok (.new 67, 3) := by decide +kernel
theorem dX6_inYard_24 : decode cX6_inYard 24 = .ok (.dup, 1) := by decide +kernel
theorem dX6_inYard_25 : decode cX6_inYard 25 = .ok (.ldc_w 267, 3) := by decide +kernel
theorem dX6_inYard_28 : decode cX6_inYard 28 = .ok (.invokespecial 71, 3) := by decide +kernel
theorem dX6_inYard_31 : decode cX6_inYard 31 = .ok (.athrow, 1) := by decide +kernel
theorem dX6_inYard_32 : decode cX6_inYard 32 = .ok (.aload_n 0, 1) := by decide +kernel
theorem dX6_inYard_33 : decode cX6_inYard 33 = .ok (.getfield 19, 3) := by decide +kernel
theorem dX6_inYard_36 : decode cX6_inYard 36 = .ok (.iload_n 1, 1) := by decide +kernel
theorem dX6_inYard_37 : decode cX6_inYard 37 = .ok (.iload_n 2, 1) := by decide +kernel
theorem dX6_inYard_38 : decode cX6_inYard 38 = .ok (.invokevirtual 269, 3) := by decide +kernel
theorem dX6_inYard_41 : decode cX6_inYard 41 = .ok (.ireturn, 1) := by decide +kernel
def pX6_inYard (a1 : Int32) (a2 : Int32) (u : St) : Option (Nat × Int32 × St) := if (pX6_isStack a1) = 0 then (some (1, 0, u)) else (if 0 ≤ a2 then (bnd (pX5_boxIn a1 a2 u) (fun r3 w4 => some (0, r3, w4))) else (some (1, 0, u)))
set_option maxHeartbeats 4000000 in
set_option maxRecDepth 20000 in
theorem kX6_inYard {l : Launch} {D : va_G} {Y : Nat → ClassId} {q : Nat → Nat} {a1 a2 : Int32} {u u1 : St} {k : Nat} {r : Int32} (hX : pX6_inYard a1 a2 u = some (k, r, u1)) (hl9 : l.stackTraces = false) : CMt false l yX6_inYard cX6_inYard 3 (some .int) 6 90 D Y (wC Y q u) (wC Y q u1) [.ref (q 0), .int a1, .int a2] k r := by
  refine cm_oft (by decide) (Nat.le_of_ble_eq_true rfl) rfl (fun p e s m args below meth c A F hr hlk hT hex => ?_)
  show GW p l e { frames := 6, cells := 1, slots := 6, locals := 90 } s m args below meth c D A 3 0 0 (QT false below args s D (wC Y q u1) A k r) (wC Y q u) 0 [(0, .ref (q 0)), (1, .int a1), (2, .int a2)] []
  have hX : ((if (pX6_isStack a1) = 0 then (some (1, 0, u)) else (if 0 ≤ a2 then (bnd (pX5_boxIn a1 a2 u) (fun r3 w4 => some (0, r3, w4))) else (some (1, 0, u)))) : Option (Nat × Int32 × St)) = some (k, r, u1) := hX
  refine g_iload_n F dX6_inYard_0 1 rfl rfl ?_
  refine callX6_isStack F ml_X6_158 ⟨Nat.le_of_ble_eq_true rfl, Nat.le_of_ble_eq_true rfl⟩ (Nat.le_of_ble_eq_true rfl) dX6_inYard_1 ?_
  refine g_if_ne (tgt := 17) F dX6_inYard_4 (by decide) (fun c1 => ?_) (fun c1 => ?_)
  · have hX := if_f hX c1
    refine g_iload_n F dX6_inYard_17 2 rfl rfl ?_
    refine g_if_ge (tgt := 32) F dX6_inYard_18 (by decide) (fun c2 => ?_) (fun c2 => ?_)
    · have hX := if_t hX c2
      refine g_aload_n F dX6_inYard_32 0 rfl rfl ?_
      refine G_X6_19 F dX6_inYard_33 ?_
      refine g_iload_n F dX6_inYard_36 1 rfl rfl ?_
      refine g_iload_n F dX6_inYard_37 2 rfl rfl ?_
      obtain ⟨r3, w4, hc5, hX⟩ := bnd_s hX
      refine callX5_boxIn F hc5 ml_X6_269 ⟨Nat.le_of_ble_eq_true rfl, Nat.le_of_ble_eq_true rfl⟩ (Nat.le_of_ble_eq_true rfl) dX6_inYard_38 ?_
      exact g_retT (wf := wC Y q) F hr rfl hlk dX6_inYard_41 hX
    · have hX := if_f hX c2
      exact g_throwSW F hl9 hT hex hlk (kc := 1) (is := 267) (text := "no such place") cl_X6_67 in_IndexOutOfBoundsException (List.mem_of_getElem? (i := 25) rfl) at_71 (by decide) (by decide +kernel) dX6_inYard_21 dX6_inYard_24 dX6_inYard_25 dX6_inYard_28 dX6_inYard_31 ⟨Nat.le_of_ble_eq_true rfl, Nat.le_of_ble_eq_true rfl, Nat.le_refl _, Nat.le_refl _⟩ hX
  · have hX := if_t hX c1
    exact g_throwS F hl9 hT hex hlk (kc := 1) (is := 161) (text := "no such stack") cl_X6_67 in_IndexOutOfBoundsException (List.mem_of_getElem? (i := 10) rfl) at_71 (by decide) (by decide +kernel) dX6_inYard_7 dX6_inYard_10 dX6_inYard_11 dX6_inYard_13 dX6_inYard_16 ⟨Nat.le_of_ble_eq_true rfl, Nat.le_of_ble_eq_true rfl, Nat.le_refl _, Nat.le_refl _⟩ hX
theorem dX6_hatch_0 : decode cX6_hatch 0 = .ok (.iload_n 1, 1) := by decide +kernel
theorem dX6_hatch_1 : decode cX6_hatch 1 = .ok (.invokestatic 105, 3) := by decide +kernel
theorem dX6_hatch_4 : decode cX6_hatch 4 = .ok (.ifCond .ne 13, 3) := by decide +kernel
theorem dX6_hatch_7 : decode cX6_hatch 7 = .ok (.new 67, 3) := by decide +kernel
theorem dX6_hatch_10 : decode cX6_hatch 10 = .ok (.dup, 1) := by decide +kernel
theorem dX6_hatch_11 : decode cX6_hatch 11 = .ok (.ldc 108, 2) := by decide +kernel
theorem dX6_hatch_13 : decode cX6_hatch 13 = .ok (.invokespecial 71, 3) := by decide +kernel
theorem dX6_hatch_16 : decode cX6_hatch 16 = .ok (.athrow, 1) := by decide +kernel
theorem dX6_hatch_17 : decode cX6_hatch 17 = .ok (.aload_n 0, 1) := by decide +kernel
theorem dX6_hatch_18 : decode cX6_hatch 18 = .ok (.getfield 26, 3) := by decide +kernel
theorem dX6_hatch_21 : decode cX6_hatch 21 = .ok (.iload_n 1, 1) := by decide +kernel
theorem dX6_hatch_22 : decode cX6_hatch 22 = .ok (.invokevirtual 271, 3) := by decide +kernel
theorem dX6_hatch_25 : decode cX6_hatch 25 = .ok (.ifCond .eq 7, 3) := by decide +kernel
theorem dX6_hatch_28 : decode cX6_hatch 28 = .ok (.iconst 1, 1) := by decide +kernel
theorem dX6_hatch_29 : decode cX6_hatch 29 = .ok (.goto 4, 3) := by decide +kernel
theorem dX6_hatch_32 : decode cX6_hatch 32 = .ok (.iconst 0, 1) := by decide +kernel
theorem dX6_hatch_33 : decode cX6_hatch 33 = .ok (.aload_n 0, 1) := by decide +kernel
theorem dX6_hatch_34 : decode cX6_hatch 34 = .ok (.iload_n 1, 1) := by decide +kernel
theorem dX6_hatch_35 : decode cX6_hatch 35 = .ok (.invokevirtual 274, 3) := by decide +kernel
theorem dX6_hatch_38 : decode cX6_hatch 38 = .ok (.ifCond .eq 7, 3) := by decide +kernel
theorem dX6_hatch_41 : decode cX6_hatch 41 = .ok (.iconst 2, 1) := by decide +kernel
theorem dX6_hatch_42 : decode cX6_hatch 42 = .ok (.goto 4, 3) := by decide +kernel
theorem dX6_hatch_45 : decode cX6_hatch 45 = .ok (.iconst 0, 1) := by decide +kernel
theorem dX6_hatch_46 : decode cX6_hatch 46 = .ok (.iadd, 1) := by decide +kernel
theorem dX6_hatch_47 : decode cX6_hatch 47 = .ok (.ireturn, 1) := by decide +kernel
def pX6_hatch_b46  (y0 : Int32) (y1 : Int32) (v : St) : Option (Nat × Int32 × St) := some (0, y1 + y0, v)
def pX6_hatch_b33  (x1 : Int32) (y0 : Int32) (v : St) : Option (Nat × Int32 × St) := bnd (pX6_isJammed x1 v) (fun r6 w7 => if r6 = 0 then (pX6_hatch_b46 0 y0 w7) else (pX6_hatch_b46 2 y0 w7))
def pX6_hatch (a1 : Int32) (u : St) : Option (Nat × Int32 × St) := if (pX6_isBay a1) = 0 then (some (1, 0, u)) else (bnd (pX4_isOpen a1 u) (fun r2 w3 => if r2 = 0 then (pX6_hatch_b33 a1 0 w3) else (pX6_hatch_b33 a1 1 w3)))
set_option maxHeartbeats 4000000 in
set_option maxRecDepth 20000 in
theorem kX6_hatch {l : Launch} {D : va_G} {Y : Nat → ClassId} {q : Nat → Nat} {a1 : Int32} {u u1 : St} {k : Nat} {r : Int32} (hX : pX6_hatch a1 u = some (k, r, u1)) (hl9 : l.stackTraces = false) : CMt false l yX6_hatch cX6_hatch 2 (some .int) 6 90 D Y (wC Y q u) (wC Y q u1) [.ref (q 0), .int a1] k r := by
  refine cm_oft (by decide) (Nat.le_of_ble_eq_true rfl) rfl (fun p e s m args below meth c A F hr hlk hT hex => ?_)
  show GW p l e { frames := 6, cells := 1, slots := 6, locals := 90 } s m args below meth c D A 2 0 0 (QT false below args s D (wC Y q u1) A k r) (wC Y q u) 0 [(0, .ref (q 0)), (1, .int a1)] []
  have b46 : ∀  (y0 : Int32) (y1 : Int32) (v : St), pX6_hatch_b46  y0 y1 v = some (k, r, u1) → GW p l e { frames := 6, cells := 1, slots := 6, locals := 90 } s m args below meth c D A 2 0 0 (QT false below args s D (wC Y q u1) A k r) (wC Y q v) 46 [] [.int y0, .int y1] := by
    intro  y0 y1 v hX
    have hX : ((some (0, y1 + y0, v)) : Option (Nat × Int32 × St)) = some (k, r, u1) := hX
    refine g_iadd F dX6_hatch_46 ?_
    exact g_retT (wf := wC Y q) F hr rfl hlk dX6_hatch_47 hX
  have b33 : ∀  (x1 : Int32) (y0 : Int32) (v : St), pX6_hatch_b33  x1 y0 v = some (k, r, u1) → GW p l e { frames := 6, cells := 1, slots := 6, locals := 90 } s m args below meth c D A 2 0 0 (QT false below args s D (wC Y q u1) A k r) (wC Y q v) 33 [(0, .ref (q 0)), (1, .int x1)] [.int y0] := by
    intro  x1 y0 v hX
    have hX : ((bnd (pX6_isJammed x1 v) (fun r6 w7 => if r6 = 0 then (pX6_hatch_b46 0 y0 w7) else (pX6_hatch_b46 2 y0 w7))) : Option (Nat × Int32 × St)) = some (k, r, u1) := hX
    refine g_aload_n F dX6_hatch_33 0 rfl rfl ?_
    refine g_iload_n F dX6_hatch_34 1 rfl rfl ?_
    obtain ⟨r6, w7, hc8, hX⟩ := bnd_s hX
    refine callX6_isJammed F hc8 ml_X6_274 ⟨Nat.le_of_ble_eq_true rfl, Nat.le_of_ble_eq_true rfl⟩ (Nat.le_of_ble_eq_true rfl) dX6_hatch_35 ?_
    refine g_if_eq (tgt := 45) F dX6_hatch_38 (by decide) (fun c9 => ?_) (fun c9 => ?_)
    · have hX := if_t hX c9
      refine g_iconst (v := 0) F dX6_hatch_45 (by decide) ?_
      refine g_sub [] rfl ?_
      exact b46 0 y0 w7 hX
    · have hX := if_f hX c9
      refine g_iconst (v := 2) F dX6_hatch_41 (by decide) ?_
      refine g_goto (tgt := 46) F dX6_hatch_42 (by decide) ?_
      refine g_sub [] rfl ?_
      exact b46 2 y0 w7 hX
  have hX : ((if (pX6_isBay a1) = 0 then (some (1, 0, u)) else (bnd (pX4_isOpen a1 u) (fun r2 w3 => if r2 = 0 then (pX6_hatch_b33 a1 0 w3) else (pX6_hatch_b33 a1 1 w3)))) : Option (Nat × Int32 × St)) = some (k, r, u1) := hX
  refine g_iload_n F dX6_hatch_0 1 rfl rfl ?_
  refine callX6_isBay F ml_X6_105 ⟨Nat.le_of_ble_eq_true rfl, Nat.le_of_ble_eq_true rfl⟩ (Nat.le_of_ble_eq_true rfl) dX6_hatch_1 ?_
  refine g_if_ne (tgt := 17) F dX6_hatch_4 (by decide) (fun c1 => ?_) (fun c1 => ?_)
  · have hX := if_f hX c1
    refine g_aload_n F dX6_hatch_17 0 rfl rfl ?_
    refine G_X6_26 F dX6_hatch_18 ?_
    refine g_iload_n F dX6_hatch_21 1 rfl rfl ?_
    obtain ⟨r2, w3, hc4, hX⟩ := bnd_s hX
    refine callX4_isOpen F hc4 ml_X6_271 ⟨Nat.le_of_ble_eq_true rfl, Nat.le_of_ble_eq_true rfl⟩ (Nat.le_of_ble_eq_true rfl) dX6_hatch_22 ?_
    refine g_if_eq (tgt := 32) F dX6_hatch_25 (by decide) (fun c5 => ?_) (fun c5 => ?_)
    · have hX := if_t hX c5
      refine g_iconst (v := 0) F dX6_hatch_32 (by decide) ?_
      exact b33 a1 0 w3 hX
    · have hX := if_f hX c5
      refine g_iconst (v := 1) F dX6_hatch_28 (by decide) ?_
      refine g_goto (tgt := 33) F dX6_hatch_29 (by decide) ?_
      exact b33 a1 1 w3 hX
  · have hX := if_t hX c1
    exact g_throwS F hl9 hT hex hlk (kc := 1) (is := 108) (text := "no such bay") cl_X6_67 in_IndexOutOfBoundsException (List.mem_of_getElem? (i := 3) rfl) at_71 (by decide) (by decide +kernel) dX6_hatch_7 dX6_hatch_10 dX6_hatch_11 dX6_hatch_13 dX6_hatch_16 ⟨Nat.le_of_ble_eq_true rfl, Nat.le_of_ble_eq_true rfl, Nat.le_refl _, Nat.le_refl _⟩ hX
theorem dX6_moment_0 : decode cX6_moment 0 = .ok (.iload_n 1, 1) := by decide +kernel
theorem dX6_moment_1 : decode cX6_moment 1 = .ok (.iconst 0, 1) := by decide +kernel
theorem dX6_moment_2 : decode cX6_moment 2 = .ok (.bipush 6, 2) := by decide +kernel
theorem dX6_moment_4 : decode cX6_moment 4 = .ok (.invokestatic 96, 3) := by decide +kernel
theorem dX6_moment_7 : decode cX6_moment 7 = .ok (.ifCond .ne 13, 3) := by decide +kernel
theorem dX6_moment_10 : decode cX6_moment 10 = .ok (.new 100, 3) := by decide +kernel
theorem dX6_moment_13 : decode cX6_moment 13 = .ok (.dup, 1) := by decide +kernel
theorem dX6_moment_14 : decode cX6_moment 14 = .ok (.ldc 216, 2) := by decide +kernel
theorem dX6_moment_16 : decode cX6_moment 16 = .ok (.invokespecial 104, 3) := by decide +kernel
theorem dX6_moment_19 : decode cX6_moment 19 = .ok (.athrow, 1) := by decide +kernel
theorem dX6_moment_20 : decode cX6_moment 20 = .ok (.aload_n 0, 1) := by decide +kernel
theorem dX6_moment_21 : decode cX6_moment 21 = .ok (.iload_n 1, 1) := by decide +kernel
theorem dX6_moment_22 : decode cX6_moment 22 = .ok (.invokevirtual 277, 3) := by decide +kernel
theorem dX6_moment_25 : decode cX6_moment 25 = .ok (.ireturn, 1) := by decide +kernel
def pX6_moment (a1 : Int32) (u : St) : Option (Nat × Int32 × St) := if (pX6_isWithin a1 0 6) = 0 then (some (2, 0, u)) else (bnd (pX6_momentKept a1 u) (fun r2 w3 => some (0, r2, w3)))
set_option maxHeartbeats 4000000 in
set_option maxRecDepth 20000 in
theorem kX6_moment {l : Launch} {D : va_G} {Y : Nat → ClassId} {q : Nat → Nat} {a1 : Int32} {u u1 : St} {k : Nat} {r : Int32} (hX : pX6_moment a1 u = some (k, r, u1)) (hl9 : l.stackTraces = false) : CMt false l yX6_moment cX6_moment 2 (some .int) 6 90 D Y (wC Y q u) (wC Y q u1) [.ref (q 0), .int a1] k r := by
  refine cm_oft (by decide) (Nat.le_of_ble_eq_true rfl) rfl (fun p e s m args below meth c A F hr hlk hT hex => ?_)
  show GW p l e { frames := 6, cells := 1, slots := 6, locals := 90 } s m args below meth c D A 2 0 0 (QT false below args s D (wC Y q u1) A k r) (wC Y q u) 0 [(0, .ref (q 0)), (1, .int a1)] []
  have hX : ((if (pX6_isWithin a1 0 6) = 0 then (some (2, 0, u)) else (bnd (pX6_momentKept a1 u) (fun r2 w3 => some (0, r2, w3)))) : Option (Nat × Int32 × St)) = some (k, r, u1) := hX
  refine g_iload_n F dX6_moment_0 1 rfl rfl ?_
  refine g_iconst (v := 0) F dX6_moment_1 (by decide) ?_
  refine g_bipush (v := 6) F dX6_moment_2 (by decide) ?_
  refine callX6_isWithin F ml_X6_96 ⟨Nat.le_of_ble_eq_true rfl, Nat.le_of_ble_eq_true rfl⟩ (Nat.le_of_ble_eq_true rfl) dX6_moment_4 ?_
  refine g_if_ne (tgt := 20) F dX6_moment_7 (by decide) (fun c1 => ?_) (fun c1 => ?_)
  · have hX := if_f hX c1
    refine g_aload_n F dX6_moment_20 0 rfl rfl ?_
    refine g_iload_n F dX6_moment_21 1 rfl rfl ?_
    obtain ⟨r2, w3, hc4, hX⟩ := bnd_s hX
    refine callX6_momentKept F hc4 ml_X6_277 ⟨Nat.le_of_ble_eq_true rfl, Nat.le_of_ble_eq_true rfl⟩ (Nat.le_of_ble_eq_true rfl) dX6_moment_22 ?_
    exact g_retT (wf := wC Y q) F hr rfl hlk dX6_moment_25 hX
  · have hX := if_t hX c1
    exact g_throwS F hl9 hT hex hlk (kc := 2) (is := 216) (text := "what is out of range") cl_X6_100 in_IllegalArgumentException (List.mem_of_getElem? (i := 20) rfl) at_104 (by decide) (by decide +kernel) dX6_moment_10 dX6_moment_13 dX6_moment_14 dX6_moment_16 dX6_moment_19 ⟨Nat.le_of_ble_eq_true rfl, Nat.le_of_ble_eq_true rfl, Nat.le_refl _, Nat.le_refl _⟩ hX
theorem dX6_momentAnew_0 : decode cX6_momentAnew 0 = .ok (.iload_n 1, 1) := by decide +kernel
theorem dX6_momentAnew_1 : decode cX6_momentAnew 1 = .ok (.iconst 0, 1) := by decide +kernel
theorem dX6_momentAnew_2 : decode cX6_momentAnew 2 = .ok (.bipush 6, 2) := by decide +kernel
theorem dX6_momentAnew_4 : decode cX6_momentAnew 4 = .ok (.invokestatic 96, 3) := by decide +kernel
theorem dX6_momentAnew_7 : decode cX6_momentAnew 7 = .ok (.ifCond .ne 13, 3) := by decide +kernel
theorem dX6_momentAnew_10 : decode cX6_momentAnew 10 = .ok (.new 100, 3) := by decide +kernel
theorem dX6_momentAnew_13 : decode cX6_momentAnew 13 = .ok (.dup, 1) := by decide +kernel
theorem dX6_momentAnew_14 : decode cX6_momentAnew 14 = .ok (.ldc 216, 2) := by decide +kernel
theorem dX6_momentAnew_16 : decode cX6_momentAnew 16 = .ok (.invokespecial 104, 3) := by decide +kernel
theorem dX6_momentAnew_19 : decode cX6_momentAnew 19 = .ok (.athrow, 1) := by decide +kernel
theorem dX6_momentAnew_20 : decode cX6_momentAnew 20 = .ok (.iconst 0, 1) := by decide +kernel
theorem dX6_momentAnew_21 : decode cX6_momentAnew 21 = .ok (.istore_n 2, 1) := by decide +kernel
theorem dX6_momentAnew_22 : decode cX6_momentAnew 22 = .ok (.iconst 0, 1) := by decide +kernel
theorem dX6_momentAnew_23 : decode cX6_momentAnew 23 = .ok (.istore_n 3, 1) := by decide +kernel
theorem dX6_momentAnew_24 : decode cX6_momentAnew 24 = .ok (.iload_n 3, 1) := by decide +kernel
theorem dX6_momentAnew_25 : decode cX6_momentAnew 25 = .ok (.aload_n 0, 1) := by decide +kernel
theorem dX6_momentAnew_26 : decode cX6_momentAnew 26 = .ok (.getfield 10, 3) := by decide +kernel
theorem dX6_momentAnew_29 : decode cX6_momentAnew 29 = .ok (.getfield 169, 3) := by decide +kernel
theorem dX6_momentAnew_32 : decode cX6_momentAnew 32 = .ok (.if_icmp .ge 81, 3) := by decide +kernel
theorem dX6_momentAnew_35 : decode cX6_momentAnew 35 = .ok (.aload_n 0, 1) := by decide +kernel
theorem dX6_momentAnew_36 : decode cX6_momentAnew 36 = .ok (.getfield 10, 3) := by decide +kernel
theorem dX6_momentAnew_39 : decode cX6_momentAnew 39 = .ok (.getfield 210, 3) := by decide +kernel
theorem dX6_momentAnew_42 : decode cX6_momentAnew 42 = .ok (.iload_n 3, 1) := by decide +kernel
theorem dX6_momentAnew_43 : decode cX6_momentAnew 43 = .ok (.invokevirtual 81, 3) := by decide +kernel
theorem dX6_momentAnew_46 : decode cX6_momentAnew 46 = .ok (.iconst 1, 1) := by decide +kernel
theorem dX6_momentAnew_47 : decode cX6_momentAnew 47 = .ok (.if_icmp .ne 60, 3) := by decide +kernel
theorem dX6_momentAnew_50 : decode cX6_momentAnew 50 = .ok (.aload_n 0, 1) := by decide +kernel
theorem dX6_momentAnew_51 : decode cX6_momentAnew 51 = .ok (.getfield 10, 3) := by decide +kernel
theorem dX6_momentAnew_54 : decode cX6_momentAnew 54 = .ok (.getfield 261, 3) := by decide +kernel
theorem dX6_momentAnew_57 : decode cX6_momentAnew 57 = .ok (.iload_n 3, 1) := by decide +kernel
theorem dX6_momentAnew_58 : decode cX6_momentAnew 58 = .ok (.invokevirtual 81, 3) := by decide +kernel
theorem dX6_momentAnew_61 : decode cX6_momentAnew 61 = .ok (.istore 4, 2) := by decide +kernel
theorem dX6_momentAnew_63 : decode cX6_momentAnew 63 = .ok (.iload_n 1, 1) := by decide +kernel
theorem dX6_momentAnew_64 : decode cX6_momentAnew 64 = .ok (.bipush 6, 2) := by decide +kernel
theorem dX6_momentAnew_66 : decode cX6_momentAnew 66 = .ok (.if_icmp .ne 13, 3) := by decide +kernel
theorem dX6_momentAnew_69 : decode cX6_momentAnew 69 = .ok (.iload 4, 2) := by decide +kernel
theorem dX6_momentAnew_71 : decode cX6_momentAnew 71 = .ok (.invokestatic 280, 3) := by decide +kernel
theorem dX6_momentAnew_74 : decode cX6_momentAnew 74 = .ok (.iconst 1, 1) := by decide +kernel
theorem dX6_momentAnew_75 : decode cX6_momentAnew 75 = .ok (.isub, 1) := by decide +kernel
theorem dX6_momentAnew_76 : decode cX6_momentAnew 76 = .ok (.goto 12, 3) := by decide +kernel
theorem dX6_momentAnew_79 : decode cX6_momentAnew 79 = .ok (.iload 4, 2) := by decide +kernel
theorem dX6_momentAnew_81 : decode cX6_momentAnew 81 = .ok (.invokestatic 283, 3) := by decide +kernel
theorem dX6_momentAnew_84 : decode cX6_momentAnew 84 = .ok (.iload_n 1, 1) := by decide +kernel
theorem dX6_momentAnew_85 : decode cX6_momentAnew 85 = .ok (.invokestatic 286, 3) := by decide +kernel
theorem dX6_momentAnew_88 : decode cX6_momentAnew 88 = .ok (.istore 5, 2) := by decide +kernel
theorem dX6_momentAnew_90 : decode cX6_momentAnew 90 = .ok (.iload_n 2, 1) := by decide +kernel
theorem dX6_momentAnew_91 : decode cX6_momentAnew 91 = .ok (.aload_n 0, 1) := by decide +kernel
theorem dX6_momentAnew_92 : decode cX6_momentAnew 92 = .ok (.getfield 10, 3) := by decide +kernel
theorem dX6_momentAnew_95 : decode cX6_momentAnew 95 = .ok (.getfield 289, 3) := by decide +kernel
theorem dX6_momentAnew_98 : decode cX6_momentAnew 98 = .ok (.iload_n 3, 1) := by decide +kernel
theorem dX6_momentAnew_99 : decode cX6_momentAnew 99 = .ok (.invokevirtual 81, 3) := by decide +kernel
theorem dX6_momentAnew_102 : decode cX6_momentAnew 102 = .ok (.iload 5, 2) := by decide +kernel
theorem dX6_momentAnew_104 : decode cX6_momentAnew 104 = .ok (.imul, 1) := by decide +kernel
theorem dX6_momentAnew_105 : decode cX6_momentAnew 105 = .ok (.iadd, 1) := by decide +kernel
theorem dX6_momentAnew_106 : decode cX6_momentAnew 106 = .ok (.istore_n 2, 1) := by decide +kernel
theorem dX6_momentAnew_107 : decode cX6_momentAnew 107 = .ok (.iinc 3 1, 3) := by decide +kernel
theorem dX6_momentAnew_110 : decode cX6_momentAnew 110 = .ok (.goto (-86), 3) := by decide +kernel
theorem dX6_momentAnew_113 : decode cX6_momentAnew 113 = .ok (.iload_n 1, 1) := by decide +kernel
theorem dX6_momentAnew_114 : decode cX6_momentAnew 114 = .ok (.bipush 6, 2) := by decide +kernel
theorem dX6_momentAnew_116 : decode cX6_momentAnew 116 = .ok (.if_icmp .ne 5, 3) := by decide +kernel
theorem dX6_momentAnew_119 : decode cX6_momentAnew 119 = .ok (.iload_n 2, 1) := by decide +kernel
theorem dX6_momentAnew_120 : decode cX6_momentAnew 120 = .ok (.ireturn, 1) := by decide +kernel
theorem dX6_momentAnew_121 : decode cX6_momentAnew 121 = .ok (.iconst 0, 1) := by decide +kernel
theorem dX6_momentAnew_122 : decode cX6_momentAnew 122 = .ok (.istore_n 3, 1) := by decide +kernel
theorem dX6_momentAnew_123 : decode cX6_momentAnew 123 = .ok (.iload_n 3, 1) := by decide +kernel
theorem dX6_momentAnew_124 : decode cX6_momentAnew 124 = .ok (.bipush 6, 2) := by decide +kernel
theorem dX6_momentAnew_126 : decode cX6_momentAnew 126 = .ok (.if_icmp .ge 29, 3) := by decide +kernel
theorem dX6_momentAnew_129 : decode cX6_momentAnew 129 = .ok (.iload_n 2, 1) := by decide +kernel
theorem dX6_momentAnew_130 : decode cX6_momentAnew 130 = .ok (.aload_n 0, 1) := by decide +kernel
theorem dX6_momentAnew_131 : decode cX6_momentAnew 131 = .ok (.getfield 26, 3) := by decide +kernel
theorem dX6_momentAnew_134 : decode cX6_momentAnew 134 = .ok (.getfield 112, 3) := by decide +kernel
theorem dX6_momentAnew_137 : decode cX6_momentAnew 137 = .ok (.iload_n 3, 1) := by decide +kernel
theorem dX6_momentAnew_138 : decode cX6_momentAnew 138 = .ok (.invokevirtual 81, 3) := by decide +kernel
theorem dX6_momentAnew_141 : decode cX6_momentAnew 141 = .ok (.iload_n 3, 1) := by decide +kernel
theorem dX6_momentAnew_142 : decode cX6_momentAnew 142 = .ok (.iload_n 1, 1) := by decide +kernel
theorem dX6_momentAnew_143 : decode cX6_momentAnew 143 = .ok (.invokestatic 286, 3) := by decide +kernel
theorem dX6_momentAnew_146 : decode cX6_momentAnew 146 = .ok (.imul, 1) := by decide +kernel
theorem dX6_momentAnew_147 : decode cX6_momentAnew 147 = .ok (.iadd, 1) := by decide +kernel
theorem dX6_momentAnew_148 : decode cX6_momentAnew 148 = .ok (.istore_n 2, 1) := by decide +kernel
theorem dX6_momentAnew_149 : decode cX6_momentAnew 149 = .ok (.iinc 3 1, 3) := by decide +kernel
theorem dX6_momentAnew_152 : decode cX6_momentAnew 152 = .ok (.goto (-29), 3) := by decide +kernel
theorem dX6_momentAnew_155 : decode cX6_momentAnew 155 = .ok (.iload_n 2, 1) := by decide +kernel
theorem dX6_momentAnew_156 : decode cX6_momentAnew 156 = .ok (.ireturn, 1) := by decide +kernel
def pX6_momentAnew_b123  (n : Nat) : Int32 → Int32 → Int32 → St → Option (Nat × Int32 × St) := Nat.rec (fun _ _ _ _ => none) (fun _ K123 x1 x2 x3 v => if 6 ≤ x3 then (some (0, x2, v)) else (K123 x1 (x2 + ((rg v 11 x3) * (pX6_leverOf x3 x1))) (x3 + 1) v)) n
def pX6_momentAnew_b107 (K24 : Int32 → Int32 → Int32 → St → Option (Nat × Int32 × St)) (x1 : Int32) (x2 : Int32) (x3 : Int32) (v : St) : Option (Nat × Int32 × St) := K24 x1 x2 (x3 + 1) v
def pX6_momentAnew_b88 (K24 : Int32 → Int32 → Int32 → St → Option (Nat × Int32 × St)) (x1 : Int32) (x2 : Int32) (x3 : Int32) (y0 : Int32) (v : St) : Option (Nat × Int32 × St) := pX6_momentAnew_b107 K24 x1 (x2 + ((rg v 1 x3) * y0)) x3 v
def pX6_momentAnew_b24  (n : Nat) : Int32 → Int32 → Int32 → St → Option (Nat × Int32 × St) := Nat.rec (fun _ _ _ _ => none) (fun _ K24 x1 x2 x3 v => if (v.2 6) ≤ x3 then (if x1 = 6 then (some (0, x2, v)) else (pX6_momentAnew_b123 100 x1 x2 0 v)) else (if (rg v 5 x3) = 1 then (if x1 = 6 then (pX6_momentAnew_b88 K24 x1 x2 x3 ((pX6_rowOf (rg v 6 x3)) - 1) v) else (pX6_momentAnew_b88 K24 x1 x2 x3 (pX6_leverOf (pX6_bayOf (rg v 6 x3)) x1) v)) else (pX6_momentAnew_b107 K24 x1 x2 x3 v))) n
def pX6_momentAnew (a1 : Int32) (u : St) : Option (Nat × Int32 × St) := if (pX6_isWithin a1 0 6) = 0 then (some (2, 0, u)) else (pX6_momentAnew_b24 100 a1 0 0 u)
set_option maxHeartbeats 4000000 in
set_option maxRecDepth 20000 in
theorem kX6_momentAnew {l : Launch} {D : va_G} {Y : Nat → ClassId} {q : Nat → Nat} {a1 : Int32} {u u1 : St} {k : Nat} {r : Int32} (hX : pX6_momentAnew a1 u = some (k, r, u1)) (hl9 : l.stackTraces = false) : CMt false l yX6_momentAnew cX6_momentAnew 6 (some .int) 6 90 D Y (wC Y q u) (wC Y q u1) [.ref (q 0), .int a1] k r := by
  refine cm_oft (by decide) (Nat.le_of_ble_eq_true rfl) rfl (fun p e s m args below meth c A F hr hlk hT hex => ?_)
  show GW p l e { frames := 6, cells := 1, slots := 6, locals := 90 } s m args below meth c D A 6 0 0 (QT false below args s D (wC Y q u1) A k r) (wC Y q u) 0 [(0, .ref (q 0)), (1, .int a1)] []
  have b123 : ∀  (n : Nat) (x1 : Int32) (x2 : Int32) (x3 : Int32) (v : St), pX6_momentAnew_b123  n x1 x2 x3 v = some (k, r, u1) → GW p l e { frames := 6, cells := 1, slots := 6, locals := 90 } s m args below meth c D A 6 0 0 (QT false below args s D (wC Y q u1) A k r) (wC Y q v) 123 [(0, .ref (q 0)), (1, .int x1), (2, .int x2), (3, .int x3)] [] := by
    intro  n
    induction n with
    | zero => intro x1 x2 x3 v hX; cases hX
    | succ n ih =>
      intro x1 x2 x3 v hX
      obtain ⟨K123, eK⟩ : ∃ K : Int32 → Int32 → Int32 → St → Option (Nat × Int32 × St), K = pX6_momentAnew_b123  n := ⟨_, rfl⟩
      have hK123 : ∀ (x1 : Int32) (x2 : Int32) (x3 : Int32) (v : St), K123 x1 x2 x3 v = some (k, r, u1) → GW p l e { frames := 6, cells := 1, slots := 6, locals := 90 } s m args below meth c D A 6 0 0 (QT false below args s D (wC Y q u1) A k r) (wC Y q v) 123 [(0, .ref (q 0)), (1, .int x1), (2, .int x2), (3, .int x3)] [] := by rw [eK]; exact ih
      have hX : ((if 6 ≤ x3 then (some (0, x2, v)) else (K123 x1 (x2 + ((rg v 11 x3) * (pX6_leverOf x3 x1))) (x3 + 1) v)) : Option (Nat × Int32 × St)) = some (k, r, u1) := by rw [eK]; exact hX
      refine g_iload_n F dX6_momentAnew_123 3 rfl rfl ?_
      refine g_bipush (v := 6) F dX6_momentAnew_124 (by decide) ?_
      refine g_icmp_ge (tgt := 155) F dX6_momentAnew_126 (by decide) (fun c4 => ?_) (fun c4 => ?_)
      · have hX := if_t hX c4
        refine g_iload_n F dX6_momentAnew_155 2 rfl rfl ?_
        exact g_retT (wf := wC Y q) F hr rfl hlk dX6_momentAnew_156 hX
      · have hX := if_f hX c4
        refine g_iload_n F dX6_momentAnew_129 2 rfl rfl ?_
        refine g_aload_n F dX6_momentAnew_130 0 rfl rfl ?_
        refine G_X6_26 F dX6_momentAnew_131 ?_
        refine G_X6_112 F dX6_momentAnew_134 ?_
        refine g_iload_n F dX6_momentAnew_137 3 rfl rfl ?_
        refine C_rget F 11 (by decide) ml_X6_81 ⟨Nat.le_of_ble_eq_true rfl, Nat.le_of_ble_eq_true rfl⟩ (Nat.le_of_ble_eq_true rfl) dX6_momentAnew_138 ?_
        refine g_iload_n F dX6_momentAnew_141 3 rfl rfl ?_
        refine g_iload_n F dX6_momentAnew_142 1 rfl rfl ?_
        refine callX6_leverOf F ml_X6_286 ⟨Nat.le_of_ble_eq_true rfl, Nat.le_of_ble_eq_true rfl⟩ (Nat.le_of_ble_eq_true rfl) dX6_momentAnew_143 ?_
        refine g_imul F dX6_momentAnew_146 ?_
        refine g_iadd F dX6_momentAnew_147 ?_
        refine g_istore_n (lv' := [(2, .int (x2 + ((rg v 11 x3) * (pX6_leverOf x3 x1)))), (0, .ref (q 0)), (1, .int x1), (3, .int x3)]) F dX6_momentAnew_148 rfl (by decide) rfl ?_
        refine g_iinc (v := x3 + 1) (lv' := [(3, .int (x3 + 1)), (2, .int (x2 + ((rg v 11 x3) * (pX6_leverOf x3 x1)))), (0, .ref (q 0)), (1, .int x1)]) F dX6_momentAnew_149 3 rfl rfl (by decide) rfl ?_
        refine g_goto (tgt := 123) F dX6_momentAnew_152 (by decide) ?_
        refine g_sub [2, 3, 1, 0] rfl ?_
        exact hK123 x1 (x2 + ((rg v 11 x3) * (pX6_leverOf x3 x1))) (x3 + 1) v hX
  have b107 : ∀ (K24 : Int32 → Int32 → Int32 → St → Option (Nat × Int32 × St)) (hK24 : ∀ (x1 : Int32) (x2 : Int32) (x3 : Int32) (v : St), K24 x1 x2 x3 v = some (k, r, u1) → GW p l e { frames := 6, cells := 1, slots := 6, locals := 90 } s m args below meth c D A 6 0 0 (QT false below args s D (wC Y q u1) A k r) (wC Y q v) 24 [(0, .ref (q 0)), (1, .int x1), (2, .int x2), (3, .int x3)] []) (x1 : Int32) (x2 : Int32) (x3 : Int32) (v : St), pX6_momentAnew_b107 K24 x1 x2 x3 v = some (k, r, u1) → GW p l e { frames := 6, cells := 1, slots := 6, locals := 90 } s m args below meth c D A 6 0 0 (QT false below args s D (wC Y q u1) A k r) (wC Y q v) 107 [(0, .ref (q 0)), (1, .int x1), (2, .int x2), (3, .int x3)] [] := by
    intro K24 hK24 x1 x2 x3 v hX
    have hX : ((K24 x1 x2 (x3 + 1) v) : Option (Nat × Int32 × St)) = some (k, r, u1) := hX
    refine g_iinc (v := x3 + 1) (lv' := [(3, .int (x3 + 1)), (0, .ref (q 0)), (1, .int x1), (2, .int x2)]) F dX6_momentAnew_107 3 rfl rfl (by decide) rfl ?_
    refine g_goto (tgt := 24) F dX6_momentAnew_110 (by decide) ?_
    refine g_sub [1, 2, 3, 0] rfl ?_
    exact hK24 x1 x2 (x3 + 1) v hX
  have b88 : ∀ (K24 : Int32 → Int32 → Int32 → St → Option (Nat × Int32 × St)) (hK24 : ∀ (x1 : Int32) (x2 : Int32) (x3 : Int32) (v : St), K24 x1 x2 x3 v = some (k, r, u1) → GW p l e { frames := 6, cells := 1, slots := 6, locals := 90 } s m args below meth c D A 6 0 0 (QT false below args s D (wC Y q u1) A k r) (wC Y q v) 24 [(0, .ref (q 0)), (1, .int x1), (2, .int x2), (3, .int x3)] []) (x1 : Int32) (x2 : Int32) (x3 : Int32) (y0 : Int32) (v : St), pX6_momentAnew_b88 K24 x1 x2 x3 y0 v = some (k, r, u1) → GW p l e { frames := 6, cells := 1, slots := 6, locals := 90 } s m args below meth c D A 6 0 0 (QT false below args s D (wC Y q u1) A k r) (wC Y q v) 88 [(0, .ref (q 0)), (1, .int x1), (2, .int x2), (3, .int x3)] [.int y0] := by
    intro K24 hK24 x1 x2 x3 y0 v hX
    have hX : ((pX6_momentAnew_b107 K24 x1 (x2 + ((rg v 1 x3) * y0)) x3 v) : Option (Nat × Int32 × St)) = some (k, r, u1) := hX
    refine g_istore (lv' := [(5, .int y0), (0, .ref (q 0)), (1, .int x1), (2, .int x2), (3, .int x3)]) F dX6_momentAnew_88 (by decide) rfl ?_
    refine g_iload_n F dX6_momentAnew_90 3 rfl rfl ?_
    refine g_aload_n F dX6_momentAnew_91 1 rfl rfl ?_
    refine G_X6_10 F dX6_momentAnew_92 ?_
    refine G_X6_289 F dX6_momentAnew_95 ?_
    refine g_iload_n F dX6_momentAnew_98 4 rfl rfl ?_
    refine C_rget F 1 (by decide) ml_X6_81 ⟨Nat.le_of_ble_eq_true rfl, Nat.le_of_ble_eq_true rfl⟩ (Nat.le_of_ble_eq_true rfl) dX6_momentAnew_99 ?_
    refine g_iload F dX6_momentAnew_102 0 rfl ?_
    refine g_imul F dX6_momentAnew_104 ?_
    refine g_iadd F dX6_momentAnew_105 ?_
    refine g_istore_n (lv' := [(2, .int (x2 + ((rg v 1 x3) * y0))), (5, .int y0), (0, .ref (q 0)), (1, .int x1), (3, .int x3)]) F dX6_momentAnew_106 rfl (by decide) rfl ?_
    refine g_sub [2, 3, 0, 4] rfl ?_
    exact b107 K24 hK24 x1 (x2 + ((rg v 1 x3) * y0)) x3 v hX
  have b24 : ∀  (n : Nat) (x1 : Int32) (x2 : Int32) (x3 : Int32) (v : St), pX6_momentAnew_b24  n x1 x2 x3 v = some (k, r, u1) → GW p l e { frames := 6, cells := 1, slots := 6, locals := 90 } s m args below meth c D A 6 0 0 (QT false below args s D (wC Y q u1) A k r) (wC Y q v) 24 [(0, .ref (q 0)), (1, .int x1), (2, .int x2), (3, .int x3)] [] := by
    intro  n
    induction n with
    | zero => intro x1 x2 x3 v hX; cases hX
    | succ n ih =>
      intro x1 x2 x3 v hX
      obtain ⟨K24, eK⟩ : ∃ K : Int32 → Int32 → Int32 → St → Option (Nat × Int32 × St), K = pX6_momentAnew_b24  n := ⟨_, rfl⟩
      have hK24 : ∀ (x1 : Int32) (x2 : Int32) (x3 : Int32) (v : St), K24 x1 x2 x3 v = some (k, r, u1) → GW p l e { frames := 6, cells := 1, slots := 6, locals := 90 } s m args below meth c D A 6 0 0 (QT false below args s D (wC Y q u1) A k r) (wC Y q v) 24 [(0, .ref (q 0)), (1, .int x1), (2, .int x2), (3, .int x3)] [] := by rw [eK]; exact ih
      have hX : ((if (v.2 6) ≤ x3 then (if x1 = 6 then (some (0, x2, v)) else (pX6_momentAnew_b123 100 x1 x2 0 v)) else (if (rg v 5 x3) = 1 then (if x1 = 6 then (pX6_momentAnew_b88 K24 x1 x2 x3 ((pX6_rowOf (rg v 6 x3)) - 1) v) else (pX6_momentAnew_b88 K24 x1 x2 x3 (pX6_leverOf (pX6_bayOf (rg v 6 x3)) x1) v)) else (pX6_momentAnew_b107 K24 x1 x2 x3 v))) : Option (Nat × Int32 × St)) = some (k, r, u1) := by rw [eK]; exact hX
      refine g_iload_n F dX6_momentAnew_24 3 rfl rfl ?_
      refine g_aload_n F dX6_momentAnew_25 0 rfl rfl ?_
      refine G_X6_10 F dX6_momentAnew_26 ?_
      refine G_X6_169 F dX6_momentAnew_29 ?_
      refine g_icmp_ge (tgt := 113) F dX6_momentAnew_32 (by decide) (fun c2 => ?_) (fun c2 => ?_)
      · have hX := if_t hX c2
        refine g_iload_n F dX6_momentAnew_113 1 rfl rfl ?_
        refine g_bipush (v := 6) F dX6_momentAnew_114 (by decide) ?_
        refine g_icmp_ne (tgt := 121) F dX6_momentAnew_116 (by decide) (fun c3 => ?_) (fun c3 => ?_)
        · have hX := if_f hX c3
          refine g_iconst (v := 0) F dX6_momentAnew_121 (by decide) ?_
          refine g_istore_n (lv' := [(3, .int 0), (0, .ref (q 0)), (1, .int x1), (2, .int x2)]) F dX6_momentAnew_122 rfl (by decide) rfl ?_
          refine g_sub [1, 2, 3, 0] rfl ?_
          exact b123 100 x1 x2 0 v hX
        · have hX := if_t hX c3
          refine g_iload_n F dX6_momentAnew_119 2 rfl rfl ?_
          exact g_retT (wf := wC Y q) F hr rfl hlk dX6_momentAnew_120 hX
      · have hX := if_f hX c2
        refine g_aload_n F dX6_momentAnew_35 0 rfl rfl ?_
        refine G_X6_10 F dX6_momentAnew_36 ?_
        refine G_X6_210 F dX6_momentAnew_39 ?_
        refine g_iload_n F dX6_momentAnew_42 3 rfl rfl ?_
        refine C_rget F 5 (by decide) ml_X6_81 ⟨Nat.le_of_ble_eq_true rfl, Nat.le_of_ble_eq_true rfl⟩ (Nat.le_of_ble_eq_true rfl) dX6_momentAnew_43 ?_
        refine g_iconst (v := 1) F dX6_momentAnew_46 (by decide) ?_
        refine g_icmp_ne (tgt := 107) F dX6_momentAnew_47 (by decide) (fun c5 => ?_) (fun c5 => ?_)
        · have hX := if_f hX c5
          exact b107 K24 hK24 x1 x2 x3 v hX
        · have hX := if_t hX c5
          refine g_aload_n F dX6_momentAnew_50 0 rfl rfl ?_
          refine G_X6_10 F dX6_momentAnew_51 ?_
          refine G_X6_261 F dX6_momentAnew_54 ?_
          refine g_iload_n F dX6_momentAnew_57 3 rfl rfl ?_
          refine C_rget F 6 (by decide) ml_X6_81 ⟨Nat.le_of_ble_eq_true rfl, Nat.le_of_ble_eq_true rfl⟩ (Nat.le_of_ble_eq_true rfl) dX6_momentAnew_58 ?_
          refine g_istore (lv' := [(4, .int (rg v 6 x3)), (0, .ref (q 0)), (1, .int x1), (2, .int x2), (3, .int x3)]) F dX6_momentAnew_61 (by decide) rfl ?_
          refine g_iload_n F dX6_momentAnew_63 2 rfl rfl ?_
          refine g_bipush (v := 6) F dX6_momentAnew_64 (by decide) ?_
          refine g_icmp_ne (tgt := 79) F dX6_momentAnew_66 (by decide) (fun c6 => ?_) (fun c6 => ?_)
          · have hX := if_f hX c6
            refine g_iload F dX6_momentAnew_79 0 rfl ?_
            refine callX6_bayOf F ml_X6_283 ⟨Nat.le_of_ble_eq_true rfl, Nat.le_of_ble_eq_true rfl⟩ (Nat.le_of_ble_eq_true rfl) dX6_momentAnew_81 ?_
            refine g_iload_n F dX6_momentAnew_84 2 rfl rfl ?_
            refine callX6_leverOf F ml_X6_286 ⟨Nat.le_of_ble_eq_true rfl, Nat.le_of_ble_eq_true rfl⟩ (Nat.le_of_ble_eq_true rfl) dX6_momentAnew_85 ?_
            refine g_sub [1, 2, 3, 4] rfl ?_
            exact b88 K24 hK24 x1 x2 x3 (pX6_leverOf (pX6_bayOf (rg v 6 x3)) x1) v hX
          · have hX := if_t hX c6
            refine g_iload F dX6_momentAnew_69 0 rfl ?_
            refine callX6_rowOf F ml_X6_280 ⟨Nat.le_of_ble_eq_true rfl, Nat.le_of_ble_eq_true rfl⟩ (Nat.le_of_ble_eq_true rfl) dX6_momentAnew_71 ?_
            refine g_iconst (v := 1) F dX6_momentAnew_74 (by decide) ?_
            refine g_isub F dX6_momentAnew_75 ?_
            refine g_goto (tgt := 88) F dX6_momentAnew_76 (by decide) ?_
            refine g_sub [1, 2, 3, 4] rfl ?_
            exact b88 K24 hK24 x1 x2 x3 ((pX6_rowOf (rg v 6 x3)) - 1) v hX
  have hX : ((if (pX6_isWithin a1 0 6) = 0 then (some (2, 0, u)) else (pX6_momentAnew_b24 100 a1 0 0 u)) : Option (Nat × Int32 × St)) = some (k, r, u1) := hX
  refine g_iload_n F dX6_momentAnew_0 1 rfl rfl ?_
  refine g_iconst (v := 0) F dX6_momentAnew_1 (by decide) ?_
  refine g_bipush (v := 6) F dX6_momentAnew_2 (by decide) ?_
  refine callX6_isWithin F ml_X6_96 ⟨Nat.le_of_ble_eq_true rfl, Nat.le_of_ble_eq_true rfl⟩ (Nat.le_of_ble_eq_true rfl) dX6_momentAnew_4 ?_
  refine g_if_ne (tgt := 20) F dX6_momentAnew_7 (by decide) (fun c1 => ?_) (fun c1 => ?_)
  · have hX := if_f hX c1
    refine g_iconst (v := 0) F dX6_momentAnew_20 (by decide) ?_
    refine g_istore_n (lv' := [(2, .int 0), (0, .ref (q 0)), (1, .int a1)]) F dX6_momentAnew_21 rfl (by decide) rfl ?_
    refine g_iconst (v := 0) F dX6_momentAnew_22 (by decide) ?_
    refine g_istore_n (lv' := [(3, .int 0), (2, .int 0), (0, .ref (q 0)), (1, .int a1)]) F dX6_momentAnew_23 rfl (by decide) rfl ?_
    refine g_sub [2, 3, 1, 0] rfl ?_
    exact b24 100 a1 0 0 u hX
  · have hX := if_t hX c1
    exact g_throwS F hl9 hT hex hlk (kc := 2) (is := 216) (text := "what is out of range") cl_X6_100 in_IllegalArgumentException (List.mem_of_getElem? (i := 20) rfl) at_104 (by decide) (by decide +kernel) dX6_momentAnew_10 dX6_momentAnew_13 dX6_momentAnew_14 dX6_momentAnew_16 dX6_momentAnew_19 ⟨Nat.le_of_ble_eq_true rfl, Nat.le_of_ble_eq_true rfl, Nat.le_refl _, Nat.le_refl _⟩ hX
theorem dX6_dig_0 : decode cX6_dig 0 = .ok (.aload_n 0, 1) := by decide +kernel
theorem dX6_dig_1 : decode cX6_dig 1 = .ok (.iload_n 1, 1) := by decide +kernel
theorem dX6_dig_2 : decode cX6_dig 2 = .ok (.invokevirtual 187, 3) := by decide +kernel
theorem dX6_dig_5 : decode cX6_dig 5 = .ok (.ifCond .ne 13, 3) := by decide +kernel
theorem dX6_dig_8 : decode cX6_dig 8 = .ok (.new 67, 3) := by decide +kernel
theorem dX6_dig_11 : decode cX6_dig 11 = .ok (.dup, 1) := by decide +kernel
theorem dX6_dig_12 : decode cX6_dig 12 = .ok (.ldc 190, 2) := by decide +kernel
theorem dX6_dig_14 : decode cX6_dig 14 = .ok (.invokespecial 71, 3) := by decide +kernel
theorem dX6_dig_17 : decode cX6_dig 17 = .ok (.athrow, 1) := by decide +kernel
theorem dX6_dig_18 : decode cX6_dig 18 = .ok (.aload_n 0, 1) := by decide +kernel
theorem dX6_dig_19 : decode cX6_dig 19 = .ok (.getfield 10, 3) := by decide +kernel
theorem dX6_dig_22 : decode cX6_dig 22 = .ok (.getfield 210, 3) := by decide +kernel
theorem dX6_dig_25 : decode cX6_dig 25 = .ok (.iload_n 1, 1) := by decide +kernel
theorem dX6_dig_26 : decode cX6_dig 26 = .ok (.invokevirtual 81, 3) := by decide +kernel
theorem dX6_dig_29 : decode cX6_dig 29 = .ok (.iconst 1, 1) := by decide +kernel
theorem dX6_dig_30 : decode cX6_dig 30 = .ok (.if_icmp .eq 14, 3) := by decide +kernel
theorem dX6_dig_33 : decode cX6_dig 33 = .ok (.new 84, 3) := by decide +kernel
theorem dX6_dig_36 : decode cX6_dig 36 = .ok (.dup, 1) := by decide +kernel
theorem dX6_dig_37 : decode cX6_dig 37 = .ok (.ldc_w 295, 3) := by decide +kernel
theorem dX6_dig_40 : decode cX6_dig 40 = .ok (.invokespecial 88, 3) := by decide +kernel
theorem dX6_dig_43 : decode cX6_dig 43 = .ok (.athrow, 1) := by decide +kernel
theorem dX6_dig_44 : decode cX6_dig 44 = .ok (.aload_n 0, 1) := by decide +kernel
theorem dX6_dig_45 : decode cX6_dig 45 = .ok (.getfield 10, 3) := by decide +kernel
theorem dX6_dig_48 : decode cX6_dig 48 = .ok (.getfield 261, 3) := by decide +kernel
theorem dX6_dig_51 : decode cX6_dig 51 = .ok (.iload_n 1, 1) := by decide +kernel
theorem dX6_dig_52 : decode cX6_dig 52 = .ok (.invokevirtual 81, 3) := by decide +kernel
theorem dX6_dig_55 : decode cX6_dig 55 = .ok (.istore_n 2, 1) := by decide +kernel
theorem dX6_dig_56 : decode cX6_dig 56 = .ok (.aload_n 0, 1) := by decide +kernel
theorem dX6_dig_57 : decode cX6_dig 57 = .ok (.iload_n 1, 1) := by decide +kernel
theorem dX6_dig_58 : decode cX6_dig 58 = .ok (.invokevirtual 264, 3) := by decide +kernel
theorem dX6_dig_61 : decode cX6_dig 61 = .ok (.istore_n 3, 1) := by decide +kernel
theorem dX6_dig_62 : decode cX6_dig 62 = .ok (.iload_n 2, 1) := by decide +kernel
theorem dX6_dig_63 : decode cX6_dig 63 = .ok (.invokestatic 297, 3) := by decide +kernel
theorem dX6_dig_66 : decode cX6_dig 66 = .ok (.ifCond .eq 19, 3) := by decide +kernel
theorem dX6_dig_69 : decode cX6_dig 69 = .ok (.iload_n 3, 1) := by decide +kernel
theorem dX6_dig_70 : decode cX6_dig 70 = .ok (.aload_n 0, 1) := by decide +kernel
theorem dX6_dig_71 : decode cX6_dig 71 = .ok (.getfield 26, 3) := by decide +kernel
theorem dX6_dig_74 : decode cX6_dig 74 = .ok (.iload_n 2, 1) := by decide +kernel
theorem dX6_dig_75 : decode cX6_dig 75 = .ok (.invokestatic 283, 3) := by decide +kernel
theorem dX6_dig_78 : decode cX6_dig 78 = .ok (.invokevirtual 300, 3) := by decide +kernel
theorem dX6_dig_81 : decode cX6_dig 81 = .ok (.iadd, 1) := by decide +kernel
theorem dX6_dig_82 : decode cX6_dig 82 = .ok (.goto 4, 3) := by decide +kernel
theorem dX6_dig_85 : decode cX6_dig 85 = .ok (.iload_n 3, 1) := by decide +kernel
theorem dX6_dig_86 : decode cX6_dig 86 = .ok (.ireturn, 1) := by decide +kernel
def pX6_dig (a1 : Int32) (u : St) : Option (Nat × Int32 × St) := bnd (pX6_isBox a1 u) (fun r1 w2 => if r1 = 0 then (some (1, 0, w2)) else (if (rg w2 5 a1) = 1 then (bnd (pX6_boxesOn a1 w2) (fun r6 w7 => if (pX6_isUnderHatch (rg w2 6 a1)) = 0 then (some (0, r6, w7)) else (bnd (pX4_boxesOnTop (pX6_bayOf (rg w2 6 a1)) w7) (fun r10 w11 => some (0, r6 + r10, w11))))) else (some (3, 0, w2))))
set_option maxHeartbeats 4000000 in
set_option maxRecDepth 20000 in
theorem kX6_dig {l : Launch} {D : va_G} {Y : Nat → ClassId} {q : Nat → Nat} {a1 : Int32} {u u1 : St} {k : Nat} {r : Int32} (hX : pX6_dig a1 u = some (k, r, u1)) (hl9 : l.stackTraces = false) : CMt false l yX6_dig cX6_dig 4 (some .int) 6 90 D Y (wC Y q u) (wC Y q u1) [.ref (q 0), .int a1] k r := by
  refine cm_oft (by decide) (Nat.le_of_ble_eq_true rfl) rfl (fun p e s m args below meth c A F hr hlk hT hex => ?_)
  show GW p l e { frames := 6, cells := 1, slots := 6, locals := 90 } s m args below meth c D A 4 0 0 (QT false below args s D (wC Y q u1) A k r) (wC Y q u) 0 [(0, .ref (q 0)), (1, .int a1)] []
  have hX : ((bnd (pX6_isBox a1 u) (fun r1 w2 => if r1 = 0 then (some (1, 0, w2)) else (if (rg w2 5 a1) = 1 then (bnd (pX6_boxesOn a1 w2) (fun r6 w7 => if (pX6_isUnderHatch (rg w2 6 a1)) = 0 then (some (0, r6, w7)) else (bnd (pX4_boxesOnTop (pX6_bayOf (rg w2 6 a1)) w7) (fun r10 w11 => some (0, r6 + r10, w11))))) else (some (3, 0, w2))))) : Option (Nat × Int32 × St)) = some (k, r, u1) := hX
  refine g_aload_n F dX6_dig_0 0 rfl rfl ?_
  refine g_iload_n F dX6_dig_1 1 rfl rfl ?_
  obtain ⟨r1, w2, hc3, hX⟩ := bnd_s hX
  refine callX6_isBox F hc3 ml_X6_187 ⟨Nat.le_of_ble_eq_true rfl, Nat.le_of_ble_eq_true rfl⟩ (Nat.le_of_ble_eq_true rfl) dX6_dig_2 ?_
  refine g_if_ne (tgt := 18) F dX6_dig_5 (by decide) (fun c4 => ?_) (fun c4 => ?_)
  · have hX := if_f hX c4
    refine g_aload_n F dX6_dig_18 0 rfl rfl ?_
    refine G_X6_10 F dX6_dig_19 ?_
    refine G_X6_210 F dX6_dig_22 ?_
    refine g_iload_n F dX6_dig_25 1 rfl rfl ?_
    refine C_rget F 5 (by decide) ml_X6_81 ⟨Nat.le_of_ble_eq_true rfl, Nat.le_of_ble_eq_true rfl⟩ (Nat.le_of_ble_eq_true rfl) dX6_dig_26 ?_
    refine g_iconst (v := 1) F dX6_dig_29 (by decide) ?_
    refine g_icmp_eq (tgt := 44) F dX6_dig_30 (by decide) (fun c5 => ?_) (fun c5 => ?_)
    · have hX := if_t hX c5
      refine g_aload_n F dX6_dig_44 0 rfl rfl ?_
      refine G_X6_10 F dX6_dig_45 ?_
      refine G_X6_261 F dX6_dig_48 ?_
      refine g_iload_n F dX6_dig_51 1 rfl rfl ?_
      refine C_rget F 6 (by decide) ml_X6_81 ⟨Nat.le_of_ble_eq_true rfl, Nat.le_of_ble_eq_true rfl⟩ (Nat.le_of_ble_eq_true rfl) dX6_dig_52 ?_
      refine g_istore_n (lv' := [(2, .int (rg w2 6 a1)), (0, .ref (q 0)), (1, .int a1)]) F dX6_dig_55 rfl (by decide) rfl ?_
      refine g_aload_n F dX6_dig_56 1 rfl rfl ?_
      refine g_iload_n F dX6_dig_57 2 rfl rfl ?_
      obtain ⟨r6, w7, hc8, hX⟩ := bnd_s hX
      refine callX6_boxesOn F hc8 ml_X6_264 ⟨Nat.le_of_ble_eq_true rfl, Nat.le_of_ble_eq_true rfl⟩ (Nat.le_of_ble_eq_true rfl) dX6_dig_58 ?_
      refine g_istore_n (lv' := [(3, .int r6), (2, .int (rg w2 6 a1)), (0, .ref (q 0)), (1, .int a1)]) F dX6_dig_61 rfl (by decide) rfl ?_
      refine g_iload_n F dX6_dig_62 1 rfl rfl ?_
      refine callX6_isUnderHatch F ml_X6_297 ⟨Nat.le_of_ble_eq_true rfl, Nat.le_of_ble_eq_true rfl⟩ (Nat.le_of_ble_eq_true rfl) dX6_dig_63 ?_
      refine g_if_eq (tgt := 85) F dX6_dig_66 (by decide) (fun c9 => ?_) (fun c9 => ?_)
      · have hX := if_t hX c9
        refine g_iload_n F dX6_dig_85 0 rfl rfl ?_
        exact g_retT (wf := wC Y q) F hr rfl hlk dX6_dig_86 hX
      · have hX := if_f hX c9
        refine g_iload_n F dX6_dig_69 0 rfl rfl ?_
        refine g_aload_n F dX6_dig_70 2 rfl rfl ?_
        refine G_X6_26 F dX6_dig_71 ?_
        refine g_iload_n F dX6_dig_74 1 rfl rfl ?_
        refine callX6_bayOf F ml_X6_283 ⟨Nat.le_of_ble_eq_true rfl, Nat.le_of_ble_eq_true rfl⟩ (Nat.le_of_ble_eq_true rfl) dX6_dig_75 ?_
        obtain ⟨r10, w11, hc12, hX⟩ := bnd_s hX
        refine callX4_boxesOnTop F hc12 ml_X6_300 ⟨Nat.le_of_ble_eq_true rfl, Nat.le_of_ble_eq_true rfl⟩ (Nat.le_of_ble_eq_true rfl) dX6_dig_78 ?_
        refine g_iadd F dX6_dig_81 ?_
        refine g_goto (tgt := 86) F dX6_dig_82 (by decide) ?_
        exact g_retT (wf := wC Y q) F hr rfl hlk dX6_dig_86 hX
    · have hX := if_f hX c5
      exact g_throwSW F hl9 hT hex hlk (kc := 3) (is := 295) (text := "the box is not on the ship") cl_X6_84 in_IllegalStateException (List.mem_of_getElem? (i := 26) rfl) at_88 (by decide) (by decide +kernel) dX6_dig_33 dX6_dig_36 dX6_dig_37 dX6_dig_40 dX6_dig_43 ⟨Nat.le_of_ble_eq_true rfl, Nat.le_of_ble_eq_true rfl, Nat.le_refl _, Nat.le_refl _⟩ hX
  · have hX := if_t hX c4
    exact g_throwS F hl9 hT hex hlk (kc := 1) (is := 190) (text := "no such box") cl_X6_67 in_IndexOutOfBoundsException (List.mem_of_getElem? (i := 16) rfl) at_71 (by decide) (by decide +kernel) dX6_dig_8 dX6_dig_11 dX6_dig_12 dX6_dig_14 dX6_dig_17 ⟨Nat.le_of_ble_eq_true rfl, Nat.le_of_ble_eq_true rfl, Nat.le_refl _, Nat.le_refl _⟩ hX
theorem dX6_can_0 : decode cX6_can 0 = .ok (.aload_n 0, 1) := by decide +kernel
theorem dX6_can_1 : decode cX6_can 1 = .ok (.iload_n 1, 1) := by decide +kernel
theorem dX6_can_2 : decode cX6_can 2 = .ok (.invokevirtual 225, 3) := by decide +kernel
theorem dX6_can_5 : decode cX6_can 5 = .ok (.ifCond .ne 13, 3) := by decide +kernel
theorem dX6_can_8 : decode cX6_can 8 = .ok (.new 67, 3) := by decide +kernel
theorem dX6_can_11 : decode cX6_can 11 = .ok (.dup, 1) := by decide +kernel
theorem dX6_can_12 : decode cX6_can 12 = .ok (.ldc 228, 2) := by decide +kernel
theorem dX6_can_14 : decode cX6_can 14 = .ok (.invokespecial 71, 3) := by decide +kernel
theorem dX6_can_17 : decode cX6_can 17 = .ok (.athrow, 1) := by decide +kernel
theorem dX6_can_18 : decode cX6_can 18 = .ok (.iload_n 2, 1) := by decide +kernel
theorem dX6_can_19 : decode cX6_can 19 = .ok (.invokestatic 138, 3) := by decide +kernel
theorem dX6_can_22 : decode cX6_can 22 = .ok (.ifCond .ne 13, 3) := by decide +kernel
theorem dX6_can_25 : decode cX6_can 25 = .ok (.new 67, 3) := by decide +kernel
theorem dX6_can_28 : decode cX6_can 28 = .ok (.dup, 1) := by decide +kernel
theorem dX6_can_29 : decode cX6_can 29 = .ok (.ldc 141, 2) := by decide +kernel
theorem dX6_can_31 : decode cX6_can 31 = .ok (.invokespecial 71, 3) := by decide +kernel
theorem dX6_can_34 : decode cX6_can 34 = .ok (.athrow, 1) := by decide +kernel
theorem dX6_can_35 : decode cX6_can 35 = .ok (.aload_n 0, 1) := by decide +kernel
theorem dX6_can_36 : decode cX6_can 36 = .ok (.iload_n 1, 1) := by decide +kernel
theorem dX6_can_37 : decode cX6_can 37 = .ok (.iload_n 2, 1) := by decide +kernel
theorem dX6_can_38 : decode cX6_can 38 = .ok (.invokevirtual 303, 3) := by decide +kernel
theorem dX6_can_41 : decode cX6_can 41 = .ok (.ireturn, 1) := by decide +kernel
def pX6_can (a1 : Int32) (a2 : Int32) (u : St) : Option (Nat × Int32 × St) := bnd (pX6_isOrder a1 u) (fun r1 w2 => if r1 = 0 then (some (1, 0, w2)) else (if (pX6_isCrane a2) = 0 then (some (1, 0, w2)) else (bnd (pX6_canDo a1 a2 w2) (fun r6 w7 => if r6 = 0 ∨ r6 = 1 then some (0, r6, w7) else none))))
set_option maxHeartbeats 4000000 in
set_option maxRecDepth 20000 in
theorem kX6_can {l : Launch} {D : va_G} {Y : Nat → ClassId} {q : Nat → Nat} {a1 a2 : Int32} {u u1 : St} {k : Nat} {r : Int32} (hX : pX6_can a1 a2 u = some (k, r, u1)) (hl9 : l.stackTraces = false) : CMt false l yX6_can cX6_can 3 (some .boolean) 6 108 D Y (wC Y q u) (wC Y q u1) [.ref (q 0), .int a1, .int a2] k r := by
  refine cm_oft (by decide) (Nat.le_of_ble_eq_true rfl) rfl (fun p e s m args below meth c A F hr hlk hT hex => ?_)
  show GW p l e { frames := 6, cells := 1, slots := 6, locals := 108 } s m args below meth c D A 3 0 0 (QT false below args s D (wC Y q u1) A k r) (wC Y q u) 0 [(0, .ref (q 0)), (1, .int a1), (2, .int a2)] []
  have hX : ((bnd (pX6_isOrder a1 u) (fun r1 w2 => if r1 = 0 then (some (1, 0, w2)) else (if (pX6_isCrane a2) = 0 then (some (1, 0, w2)) else (bnd (pX6_canDo a1 a2 w2) (fun r6 w7 => if r6 = 0 ∨ r6 = 1 then some (0, r6, w7) else none))))) : Option (Nat × Int32 × St)) = some (k, r, u1) := hX
  refine g_aload_n F dX6_can_0 0 rfl rfl ?_
  refine g_iload_n F dX6_can_1 1 rfl rfl ?_
  obtain ⟨r1, w2, hc3, hX⟩ := bnd_s hX
  refine callX6_isOrder F hc3 ml_X6_225 ⟨Nat.le_of_ble_eq_true rfl, Nat.le_of_ble_eq_true rfl⟩ (Nat.le_of_ble_eq_true rfl) dX6_can_2 ?_
  refine g_if_ne (tgt := 18) F dX6_can_5 (by decide) (fun c4 => ?_) (fun c4 => ?_)
  · have hX := if_f hX c4
    refine g_iload_n F dX6_can_18 2 rfl rfl ?_
    refine callX6_isCrane F ml_X6_138 ⟨Nat.le_of_ble_eq_true rfl, Nat.le_of_ble_eq_true rfl⟩ (Nat.le_of_ble_eq_true rfl) dX6_can_19 ?_
    refine g_if_ne (tgt := 35) F dX6_can_22 (by decide) (fun c5 => ?_) (fun c5 => ?_)
    · have hX := if_f hX c5
      refine g_aload_n F dX6_can_35 0 rfl rfl ?_
      refine g_iload_n F dX6_can_36 1 rfl rfl ?_
      refine g_iload_n F dX6_can_37 2 rfl rfl ?_
      obtain ⟨r6, w7, hc8, hX⟩ := bnd_s hX
      refine callX6_canDo F hc8 ml_X6_303 ⟨Nat.le_of_ble_eq_true rfl, Nat.le_of_ble_eq_true rfl⟩ (Nat.le_of_ble_eq_true rfl) dX6_can_38 ?_
      exact g_retTb (wf := wC Y q) F hr hlk dX6_can_41 hX
    · have hX := if_t hX c5
      exact g_throwS F hl9 hT hex hlk (kc := 1) (is := 141) (text := "no such crane") cl_X6_67 in_IndexOutOfBoundsException (List.mem_of_getElem? (i := 6) rfl) at_71 (by decide) (by decide +kernel) dX6_can_25 dX6_can_28 dX6_can_29 dX6_can_31 dX6_can_34 ⟨Nat.le_of_ble_eq_true rfl, Nat.le_of_ble_eq_true rfl, Nat.le_refl _, Nat.le_refl _⟩ hX
  · have hX := if_t hX c4
    exact g_throwS F hl9 hT hex hlk (kc := 1) (is := 228) (text := "no such order") cl_X6_67 in_IndexOutOfBoundsException (List.mem_of_getElem? (i := 22) rfl) at_71 (by decide) (by decide +kernel) dX6_can_8 dX6_can_11 dX6_can_12 dX6_can_14 dX6_can_17 ⟨Nat.le_of_ble_eq_true rfl, Nat.le_of_ble_eq_true rfl, Nat.le_refl _, Nat.le_refl _⟩ hX
theorem dX6_may_0 : decode cX6_may 0 = .ok (.aload_n 0, 1) := by decide +kernel
theorem dX6_may_1 : decode cX6_may 1 = .ok (.iload_n 1, 1) := by decide +kernel
theorem dX6_may_2 : decode cX6_may 2 = .ok (.invokevirtual 187, 3) := by decide +kernel
theorem dX6_may_5 : decode cX6_may 5 = .ok (.ifCond .ne 13, 3) := by decide +kernel
theorem dX6_may_8 : decode cX6_may 8 = .ok (.new 67, 3) := by decide +kernel
theorem dX6_may_11 : decode cX6_may 11 = .ok (.dup, 1) := by decide +kernel
theorem dX6_may_12 : decode cX6_may 12 = .ok (.ldc 190, 2) := by decide +kernel
theorem dX6_may_14 : decode cX6_may 14 = .ok (.invokespecial 71, 3) := by decide +kernel
theorem dX6_may_17 : decode cX6_may 17 = .ok (.athrow, 1) := by decide +kernel
theorem dX6_may_18 : decode cX6_may 18 = .ok (.iload_n 2, 1) := by decide +kernel
theorem dX6_may_19 : decode cX6_may 19 = .ok (.invokestatic 63, 3) := by decide +kernel
theorem dX6_may_22 : decode cX6_may 22 = .ok (.ifCond .ne 13, 3) := by decide +kernel
theorem dX6_may_25 : decode cX6_may 25 = .ok (.new 67, 3) := by decide +kernel
theorem dX6_may_28 : decode cX6_may 28 = .ok (.dup, 1) := by decide +kernel
theorem dX6_may_29 : decode cX6_may 29 = .ok (.ldc 69, 2) := by decide +kernel
theorem dX6_may_31 : decode cX6_may 31 = .ok (.invokespecial 71, 3) := by decide +kernel
theorem dX6_may_34 : decode cX6_may 34 = .ok (.athrow, 1) := by decide +kernel
theorem dX6_may_35 : decode cX6_may 35 = .ok (.aload_n 0, 1) := by decide +kernel
theorem dX6_may_36 : decode cX6_may 36 = .ok (.iload_n 1, 1) := by decide +kernel
theorem dX6_may_37 : decode cX6_may 37 = .ok (.iload_n 2, 1) := by decide +kernel
theorem dX6_may_38 : decode cX6_may 38 = .ok (.invokevirtual 306, 3) := by decide +kernel
theorem dX6_may_41 : decode cX6_may 41 = .ok (.ireturn, 1) := by decide +kernel
def pX6_may (a1 : Int32) (a2 : Int32) (u : St) : Option (Nat × Int32 × St) := bnd (pX6_isBox a1 u) (fun r1 w2 => if r1 = 0 then (some (1, 0, w2)) else (if (pX6_isSlot a2) = 0 then (some (1, 0, w2)) else (bnd (pX6_mayBeIn a1 a2 w2) (fun r6 w7 => if r6 = 0 ∨ r6 = 1 then some (0, r6, w7) else none))))
set_option maxHeartbeats 4000000 in
set_option maxRecDepth 20000 in
theorem kX6_may {l : Launch} {D : va_G} {Y : Nat → ClassId} {q : Nat → Nat} {a1 a2 : Int32} {u u1 : St} {k : Nat} {r : Int32} (hX : pX6_may a1 a2 u = some (k, r, u1)) (hl9 : l.stackTraces = false) : CMt false l yX6_may cX6_may 3 (some .boolean) 6 90 D Y (wC Y q u) (wC Y q u1) [.ref (q 0), .int a1, .int a2] k r := by
  refine cm_oft (by decide) (Nat.le_of_ble_eq_true rfl) rfl (fun p e s m args below meth c A F hr hlk hT hex => ?_)
  show GW p l e { frames := 6, cells := 1, slots := 6, locals := 90 } s m args below meth c D A 3 0 0 (QT false below args s D (wC Y q u1) A k r) (wC Y q u) 0 [(0, .ref (q 0)), (1, .int a1), (2, .int a2)] []
  have hX : ((bnd (pX6_isBox a1 u) (fun r1 w2 => if r1 = 0 then (some (1, 0, w2)) else (if (pX6_isSlot a2) = 0 then (some (1, 0, w2)) else (bnd (pX6_mayBeIn a1 a2 w2) (fun r6 w7 => if r6 = 0 ∨ r6 = 1 then some (0, r6, w7) else none))))) : Option (Nat × Int32 × St)) = some (k, r, u1) := hX
  refine g_aload_n F dX6_may_0 0 rfl rfl ?_
  refine g_iload_n F dX6_may_1 1 rfl rfl ?_
  obtain ⟨r1, w2, hc3, hX⟩ := bnd_s hX
  refine callX6_isBox F hc3 ml_X6_187 ⟨Nat.le_of_ble_eq_true rfl, Nat.le_of_ble_eq_true rfl⟩ (Nat.le_of_ble_eq_true rfl) dX6_may_2 ?_
  refine g_if_ne (tgt := 18) F dX6_may_5 (by decide) (fun c4 => ?_) (fun c4 => ?_)
  · have hX := if_f hX c4
    refine g_iload_n F dX6_may_18 2 rfl rfl ?_
    refine callX6_isSlot F ml_X6_63 ⟨Nat.le_of_ble_eq_true rfl, Nat.le_of_ble_eq_true rfl⟩ (Nat.le_of_ble_eq_true rfl) dX6_may_19 ?_
    refine g_if_ne (tgt := 35) F dX6_may_22 (by decide) (fun c5 => ?_) (fun c5 => ?_)
    · have hX := if_f hX c5
      refine g_aload_n F dX6_may_35 0 rfl rfl ?_
      refine g_iload_n F dX6_may_36 1 rfl rfl ?_
      refine g_iload_n F dX6_may_37 2 rfl rfl ?_
      obtain ⟨r6, w7, hc8, hX⟩ := bnd_s hX
      refine callX6_mayBeIn F hc8 ml_X6_306 ⟨Nat.le_of_ble_eq_true rfl, Nat.le_of_ble_eq_true rfl⟩ (Nat.le_of_ble_eq_true rfl) dX6_may_38 ?_
      exact g_retTb (wf := wC Y q) F hr hlk dX6_may_41 hX
    · have hX := if_t hX c5
      exact g_throwS F hl9 hT hex hlk (kc := 1) (is := 69) (text := "no such slot") cl_X6_67 in_IndexOutOfBoundsException (List.mem_of_getElem? (i := 0) rfl) at_71 (by decide) (by decide +kernel) dX6_may_25 dX6_may_28 dX6_may_29 dX6_may_31 dX6_may_34 ⟨Nat.le_of_ble_eq_true rfl, Nat.le_of_ble_eq_true rfl, Nat.le_refl _, Nat.le_refl _⟩ hX
  · have hX := if_t hX c4
    exact g_throwS F hl9 hT hex hlk (kc := 1) (is := 190) (text := "no such box") cl_X6_67 in_IndexOutOfBoundsException (List.mem_of_getElem? (i := 16) rfl) at_71 (by decide) (by decide +kernel) dX6_may_8 dX6_may_11 dX6_may_12 dX6_may_14 dX6_may_17 ⟨Nat.le_of_ble_eq_true rfl, Nat.le_of_ble_eq_true rfl, Nat.le_refl _, Nat.le_refl _⟩ hX
