/-! THE LAW'S STATIC METHODS (by program: wip/whole/gen/genwrap.py) -/
def outW (Y : Nat → ClassId) (o : Nat) (f : Nat → Int64) : va_W := [(o, .inl (Y 2, 1, .inr (.inl f)))]
theorem cw_yL_plug : Cond.codeWith yL_plug cL_plug 4 (some .int) [(0, 16, 19, 13), (0, 16, 22, 15)] ∈ TBL := tb_2 11 (by decide +kernel) rfl
theorem dL_plug_0 : decode cL_plug 0 = .ok (.aload_n 2, 1) := by decide +kernel
theorem dL_plug_1 : decode cL_plug 1 = .ok (.iconst 0, 1) := by decide +kernel
theorem dL_plug_2 : decode cL_plug 2 = .ok (.aload_n 0, 1) := by decide +kernel
theorem dL_plug_3 : decode cL_plug 3 = .ok (.iload_n 1, 1) := by decide +kernel
theorem dL_plug_4 : decode cL_plug 4 = .ok (.invokevirtual 7, 3) := by decide +kernel
theorem dL_plug_7 : decode cL_plug 7 = .ok (.ifCond .eq 7, 3) := by decide +kernel
theorem dL_plug_10 : decode cL_plug 10 = .ok (.lconst 1, 1) := by decide +kernel
theorem dL_plug_11 : decode cL_plug 11 = .ok (.goto 4, 3) := by decide +kernel
theorem dL_plug_14 : decode cL_plug 14 = .ok (.lconst 0, 1) := by decide +kernel
theorem dL_plug_15 : decode cL_plug 15 = .ok (.lastore, 1) := by decide +kernel
theorem dL_plug_16 : decode cL_plug 16 = .ok (.goto 9, 3) := by decide +kernel
theorem dL_plug_19 : decode cL_plug 19 = .ok (.astore_n 3, 1) := by decide +kernel
theorem dL_plug_20 : decode cL_plug 20 = .ok (.iconst 1, 1) := by decide +kernel
theorem dL_plug_21 : decode cL_plug 21 = .ok (.ireturn, 1) := by decide +kernel
theorem dL_plug_22 : decode cL_plug 22 = .ok (.astore_n 3, 1) := by decide +kernel
theorem dL_plug_23 : decode cL_plug 23 = .ok (.iconst 2, 1) := by decide +kernel
theorem dL_plug_24 : decode cL_plug 24 = .ok (.ireturn, 1) := by decide +kernel
theorem dL_plug_25 : decode cL_plug 25 = .ok (.iconst 0, 1) := by decide +kernel
theorem dL_plug_26 : decode cL_plug 26 = .ok (.ireturn, 1) := by decide +kernel
set_option maxHeartbeats 4000000 in
set_option maxRecDepth 20000 in
theorem wL_plug {l : Launch} {D : va_G} {Y : Nat → ClassId} {q : Nat → Nat} {o : Nat} {f : Nat → Int64} {a1 : Int32} {u u1 : St} {k : Nat} {r : Int32} (hX : pX6_plug a1 u = some (k, r, u1)) (hk : k = 0 ∨ k = 1 ∨ k = 3) (hl9 : l.stackTraces = false) : CMw l yL_plug cL_plug 4 [(0, 16, 19, 13), (0, 16, 22, 15)] 7 112 D Y (wC Y q u ++ outW Y o f) (wC Y q u1 ++ outW Y o (if k = 0 then vp_updL f 0 (if r = 0 then (0 : Int64) else 1) else f)) [.ref (q 0), .int a1, .ref o] (if k = 0 then 0 else if k = 1 then 1 else if k = 3 then 2 else 0) := by
  refine cm_ofw (by decide) (Nat.le_of_ble_eq_true rfl) rfl (fun p e s m args below meth c A F hr hlk hT hct => ?_)
  show GW p l e { frames := 7, cells := 1, slots := 6, locals := 112 } s m args below meth c D A 4 0 0 (MQ below (QI D (wC Y q u1 ++ outW Y o (if k = 0 then vp_updL f 0 (if r = 0 then (0 : Int64) else 1) else f)) (if k = 0 then 0 else if k = 1 then 1 else if k = 3 then 2 else 0) A) args s 1 6 A) (wC Y q u ++ outW Y o f) 0 [(0, .ref (q 0)), (1, .int a1), (2, .ref o)] []
  refine g_aload_n F dL_plug_0 2 rfl rfl ?_
  refine g_iconst (v := 0) F dL_plug_1 (by decide) ?_
  refine g_aload_n F dL_plug_2 0 rfl rfl ?_
  refine g_iload_n F dL_plug_3 1 rfl rfl ?_
  refine g_callT false (n := 1) (q0 := 0) (As := [.int a1]) (wc := wC Y q u) (w1 := wC Y q u1) (ws1 := (wC Y q u1 ++ outW Y o f)) F hT [] (outW Y o f) (kX6_plug hX hl9) rfl rfl (by unfold mOK; decide +kernel) rfl rfl cd_yX6_plug ml_L_7 im_yX6_plug se_yX6_plug in_X6 rfl rfl ⟨Nat.le_of_ble_eq_true rfl, Nat.le_of_ble_eq_true rfl⟩ ⟨Nat.le_of_ble_eq_true rfl, Nat.le_of_ble_eq_true rfl⟩ rfl (Nat.le_of_ble_eq_true rfl) dL_plug_4 (fun k0 => ?_) (fun k0 => ?_)
  · rcases hk with hk | hk | hk
    · exact absurd hk k0
    · subst hk
      refine g_catch F hT hct [] (0, 16, 19, 13) [(0, 16, 22, 15)] rfl (fun z hz => ?_) (by decide) (by decide) (by decide) cl_L_13 (fun q9 => ?_)
      · cases hz
      · show GW _ _ _ _ _ _ _ _ _ _ _ _ _ _ _ _ (wC Y q u1 ++ outW Y o f) 19 _ _
        refine g_astore_n (lv' := [(3, .ref q9), (0, .ref (q 0)), (1, .int a1), (2, .ref o)]) F dL_plug_19 rfl (by decide) rfl ?_
        refine g_iconst (v := 1) F dL_plug_20 (by decide) ?_
        exact g_iret F hr rfl hlk dL_plug_21
    · subst hk
      refine g_catch F hT hct [(0, 16, 19, 13)] (0, 16, 22, 15) [] rfl (fun z hz => ?_) (by decide) (by decide) (by decide) cl_L_15 (fun q9 => ?_)
      · simp only [List.mem_cons, List.not_mem_nil, or_false] at hz
        rcases hz with rfl
        · exact ⟨1, by decide, by decide, by decide, by decide, cl_L_13⟩
      · show GW _ _ _ _ _ _ _ _ _ _ _ _ _ _ _ _ (wC Y q u1 ++ outW Y o f) 22 _ _
        refine g_astore_n (lv' := [(3, .ref q9), (0, .ref (q 0)), (1, .int a1), (2, .ref o)]) F dL_plug_22 rfl (by decide) rfl ?_
        refine g_iconst (v := 2) F dL_plug_23 (by decide) ?_
        exact g_iret F hr rfl hlk dL_plug_24
  · subst k0
    refine g_if_eq (tgt := 14) F dL_plug_7 (by decide) (fun c1 => ?_) (fun c1 => ?_)
    · rw [if_pos c1]
      refine g_lconst (v := 0) F dL_plug_14 rfl ?_
      refine g_last F 50 rfl (by unfold vp_in; decide) dL_plug_15 (ws' := wC Y q u1 ++ outW Y o (vp_updL f 0 0)) rfl ?_
      refine g_goto (tgt := 25) F dL_plug_16 (by decide) ?_
      refine g_iconst (v := 0) F dL_plug_25 (by decide) ?_
      exact g_iret F hr rfl hlk dL_plug_26
    · rw [if_neg c1]
      refine g_lconst (v := 1) F dL_plug_10 rfl ?_
      refine g_goto (tgt := 15) F dL_plug_11 (by decide) ?_
      refine g_last F 50 rfl (by unfold vp_in; decide) dL_plug_15 (ws' := wC Y q u1 ++ outW Y o (vp_updL f 0 1)) rfl ?_
      refine g_goto (tgt := 25) F dL_plug_16 (by decide) ?_
      refine g_iconst (v := 0) F dL_plug_25 (by decide) ?_
      exact g_iret F hr rfl hlk dL_plug_26
theorem cw_yL_bounds : Cond.codeWith yL_bounds cL_bounds 5 (some .int) [(0, 7, 10, 21)] ∈ TBL := tb_2 136 (by decide +kernel) rfl
theorem dL_bounds_0 : decode cL_bounds 0 = .ok (.aload_n 0, 1) := by decide +kernel
theorem dL_bounds_1 : decode cL_bounds 1 = .ok (.iload_n 1, 1) := by decide +kernel
theorem dL_bounds_2 : decode cL_bounds 2 = .ok (.iload_n 2, 1) := by decide +kernel
theorem dL_bounds_3 : decode cL_bounds 3 = .ok (.iload_n 3, 1) := by decide +kernel
theorem dL_bounds_4 : decode cL_bounds 4 = .ok (.invokevirtual 17, 3) := by decide +kernel
theorem dL_bounds_7 : decode cL_bounds 7 = .ok (.goto 7, 3) := by decide +kernel
theorem dL_bounds_10 : decode cL_bounds 10 = .ok (.astore 4, 2) := by decide +kernel
theorem dL_bounds_12 : decode cL_bounds 12 = .ok (.iconst 1, 1) := by decide +kernel
theorem dL_bounds_13 : decode cL_bounds 13 = .ok (.ireturn, 1) := by decide +kernel
theorem dL_bounds_14 : decode cL_bounds 14 = .ok (.iconst 0, 1) := by decide +kernel
theorem dL_bounds_15 : decode cL_bounds 15 = .ok (.ireturn, 1) := by decide +kernel
set_option maxHeartbeats 4000000 in
set_option maxRecDepth 20000 in
theorem wL_bounds {l : Launch} {D : va_G} {Y : Nat → ClassId} {q : Nat → Nat} {a1 a2 a3 : Int32} {u u1 : St} {k : Nat} {r : Int32} (hX : pX6_bounds a1 a2 a3 u = some (k, r, u1)) (hk : k = 0 ∨ k = 2) (hl9 : l.stackTraces = false) : CMw l yL_bounds cL_bounds 5 [(0, 7, 10, 21)] 7 113 D Y (wC Y q u) (wC Y q u1) [.ref (q 0), .int a1, .int a2, .int a3] (if k = 0 then 0 else if k = 2 then 1 else 0) := by
  refine cm_ofw (by decide) (Nat.le_of_ble_eq_true rfl) rfl (fun p e s m args below meth c A F hr hlk hT hct => ?_)
  show GW p l e { frames := 7, cells := 1, slots := 6, locals := 113 } s m args below meth c D A 5 0 0 (MQ below (QI D (wC Y q u1) (if k = 0 then 0 else if k = 2 then 1 else 0) A) args s 1 6 A) (wC Y q u) 0 [(0, .ref (q 0)), (1, .int a1), (2, .int a2), (3, .int a3)] []
  refine g_aload_n F dL_bounds_0 0 rfl rfl ?_
  refine g_iload_n F dL_bounds_1 1 rfl rfl ?_
  refine g_iload_n F dL_bounds_2 2 rfl rfl ?_
  refine g_iload_n F dL_bounds_3 3 rfl rfl ?_
  refine g_callT true (n := 3) (q0 := 0) (As := [.int a1, .int a2, .int a3]) (wc := wC Y q u) (w1 := wC Y q u1) (ws1 := (wC Y q u1)) F hT [] [] (kX6_bounds hX hl9) (List.append_nil _).symm (List.append_nil _) (by unfold mOK; decide +kernel) rfl rfl cd_yX6_bounds ml_L_17 im_yX6_bounds se_yX6_bounds in_X6 rfl rfl ⟨Nat.le_of_ble_eq_true rfl, Nat.le_of_ble_eq_true rfl⟩ ⟨Nat.le_of_ble_eq_true rfl, Nat.le_of_ble_eq_true rfl⟩ rfl (Nat.le_of_ble_eq_true rfl) dL_bounds_4 (fun k0 => ?_) (fun k0 => ?_)
  · rcases hk with hk | hk
    · exact absurd hk k0
    · subst hk
      refine g_catch F hT hct [] (0, 7, 10, 21) [] rfl (fun z hz => ?_) (by decide) (by decide) (by decide) cl_L_21 (fun q9 => ?_)
      · cases hz
      · show GW _ _ _ _ _ _ _ _ _ _ _ _ _ _ _ _ (wC Y q u1) 10 _ _
        refine g_astore (lv' := [(4, .ref q9), (0, .ref (q 0)), (1, .int a1), (2, .int a2), (3, .int a3)]) F dL_bounds_10 (by decide) rfl ?_
        refine g_iconst (v := 1) F dL_bounds_12 (by decide) ?_
        exact g_iret F hr rfl hlk dL_bounds_13
  · subst k0
    refine g_goto (tgt := 14) F dL_bounds_7 (by decide) ?_
    refine g_iconst (v := 0) F dL_bounds_14 (by decide) ?_
    exact g_iret F hr rfl hlk dL_bounds_15
theorem cw_yL_tank : Cond.codeWith yL_tank cL_tank 5 (some .int) [(0, 10, 13, 13), (0, 10, 17, 21)] ∈ TBL := tb_2 163 (by decide +kernel) rfl
theorem dL_tank_0 : decode cL_tank 0 = .ok (.aload_n 3, 1) := by decide +kernel
theorem dL_tank_1 : decode cL_tank 1 = .ok (.iconst 0, 1) := by decide +kernel
theorem dL_tank_2 : decode cL_tank 2 = .ok (.aload_n 0, 1) := by decide +kernel
theorem dL_tank_3 : decode cL_tank 3 = .ok (.iload_n 1, 1) := by decide +kernel
theorem dL_tank_4 : decode cL_tank 4 = .ok (.iload_n 2, 1) := by decide +kernel
theorem dL_tank_5 : decode cL_tank 5 = .ok (.invokevirtual 23, 3) := by decide +kernel
theorem dL_tank_8 : decode cL_tank 8 = .ok (.i2l, 1) := by decide +kernel
theorem dL_tank_9 : decode cL_tank 9 = .ok (.lastore, 1) := by decide +kernel
theorem dL_tank_10 : decode cL_tank 10 = .ok (.goto 11, 3) := by decide +kernel
theorem dL_tank_13 : decode cL_tank 13 = .ok (.astore 4, 2) := by decide +kernel
theorem dL_tank_15 : decode cL_tank 15 = .ok (.iconst 1, 1) := by decide +kernel
theorem dL_tank_16 : decode cL_tank 16 = .ok (.ireturn, 1) := by decide +kernel
theorem dL_tank_17 : decode cL_tank 17 = .ok (.astore 4, 2) := by decide +kernel
theorem dL_tank_19 : decode cL_tank 19 = .ok (.iconst 2, 1) := by decide +kernel
theorem dL_tank_20 : decode cL_tank 20 = .ok (.ireturn, 1) := by decide +kernel
theorem dL_tank_21 : decode cL_tank 21 = .ok (.iconst 0, 1) := by decide +kernel
theorem dL_tank_22 : decode cL_tank 22 = .ok (.ireturn, 1) := by decide +kernel
set_option maxHeartbeats 4000000 in
set_option maxRecDepth 20000 in
theorem wL_tank {l : Launch} {D : va_G} {Y : Nat → ClassId} {q : Nat → Nat} {o : Nat} {f : Nat → Int64} {a1 a2 : Int32} {u u1 : St} {k : Nat} {r : Int32} (hX : pX6_tank a1 a2 u = some (k, r, u1)) (hk : k = 0 ∨ k = 1 ∨ k = 2) (hl9 : l.stackTraces = false) : CMw l yL_tank cL_tank 5 [(0, 10, 13, 13), (0, 10, 17, 21)] 7 113 D Y (wC Y q u ++ outW Y o f) (wC Y q u1 ++ outW Y o (if k = 0 then vp_updL f 0 r.toInt64 else f)) [.ref (q 0), .int a1, .int a2, .ref o] (if k = 0 then 0 else if k = 1 then 1 else if k = 2 then 2 else 0) := by
  refine cm_ofw (by decide) (Nat.le_of_ble_eq_true rfl) rfl (fun p e s m args below meth c A F hr hlk hT hct => ?_)
  show GW p l e { frames := 7, cells := 1, slots := 6, locals := 113 } s m args below meth c D A 5 0 0 (MQ below (QI D (wC Y q u1 ++ outW Y o (if k = 0 then vp_updL f 0 r.toInt64 else f)) (if k = 0 then 0 else if k = 1 then 1 else if k = 2 then 2 else 0) A) args s 1 6 A) (wC Y q u ++ outW Y o f) 0 [(0, .ref (q 0)), (1, .int a1), (2, .int a2), (3, .ref o)] []
  refine g_aload_n F dL_tank_0 3 rfl rfl ?_
  refine g_iconst (v := 0) F dL_tank_1 (by decide) ?_
  refine g_aload_n F dL_tank_2 0 rfl rfl ?_
  refine g_iload_n F dL_tank_3 1 rfl rfl ?_
  refine g_iload_n F dL_tank_4 2 rfl rfl ?_
  refine g_callT false (n := 2) (q0 := 0) (As := [.int a1, .int a2]) (wc := wC Y q u) (w1 := wC Y q u1) (ws1 := (wC Y q u1 ++ outW Y o f)) F hT [] (outW Y o f) (kX6_tank hX hl9) rfl rfl (by unfold mOK; decide +kernel) rfl rfl cd_yX6_tank ml_L_23 im_yX6_tank se_yX6_tank in_X6 rfl rfl ⟨Nat.le_of_ble_eq_true rfl, Nat.le_of_ble_eq_true rfl⟩ ⟨Nat.le_of_ble_eq_true rfl, Nat.le_of_ble_eq_true rfl⟩ rfl (Nat.le_of_ble_eq_true rfl) dL_tank_5 (fun k0 => ?_) (fun k0 => ?_)
  · rcases hk with hk | hk | hk
    · exact absurd hk k0
    · subst hk
      refine g_catch F hT hct [] (0, 10, 13, 13) [(0, 10, 17, 21)] rfl (fun z hz => ?_) (by decide) (by decide) (by decide) cl_L_13 (fun q9 => ?_)
      · cases hz
      · show GW _ _ _ _ _ _ _ _ _ _ _ _ _ _ _ _ (wC Y q u1 ++ outW Y o f) 13 _ _
        refine g_astore (lv' := [(4, .ref q9), (0, .ref (q 0)), (1, .int a1), (2, .int a2), (3, .ref o)]) F dL_tank_13 (by decide) rfl ?_
        refine g_iconst (v := 1) F dL_tank_15 (by decide) ?_
        exact g_iret F hr rfl hlk dL_tank_16
    · subst hk
      refine g_catch F hT hct [(0, 10, 13, 13)] (0, 10, 17, 21) [] rfl (fun z hz => ?_) (by decide) (by decide) (by decide) cl_L_21 (fun q9 => ?_)
      · simp only [List.mem_cons, List.not_mem_nil, or_false] at hz
        rcases hz with rfl
        · exact ⟨1, by decide, by decide, by decide, by decide, cl_L_13⟩
      · show GW _ _ _ _ _ _ _ _ _ _ _ _ _ _ _ _ (wC Y q u1 ++ outW Y o f) 17 _ _
        refine g_astore (lv' := [(4, .ref q9), (0, .ref (q 0)), (1, .int a1), (2, .int a2), (3, .ref o)]) F dL_tank_17 (by decide) rfl ?_
        refine g_iconst (v := 2) F dL_tank_19 (by decide) ?_
        exact g_iret F hr rfl hlk dL_tank_20
  · subst k0
    refine g_i2l (v := r.toInt64) F dL_tank_8 rfl ?_
    refine g_last F 50 rfl (by unfold vp_in; decide) dL_tank_9 (ws' := wC Y q u1 ++ outW Y o (vp_updL f 0 r.toInt64)) rfl ?_
    refine g_goto (tgt := 21) F dL_tank_10 (by decide) ?_
    refine g_iconst (v := 0) F dL_tank_21 (by decide) ?_
    exact g_iret F hr rfl hlk dL_tank_22
theorem cw_yL_jam : Cond.codeWith yL_jam cL_jam 5 (some .int) [(0, 10, 13, 13), (0, 10, 17, 21)] ∈ TBL := tb_2 180 (by decide +kernel) rfl
theorem dL_jam_0 : decode cL_jam 0 = .ok (.aload_n 3, 1) := by decide +kernel
theorem dL_jam_1 : decode cL_jam 1 = .ok (.iconst 0, 1) := by decide +kernel
theorem dL_jam_2 : decode cL_jam 2 = .ok (.aload_n 0, 1) := by decide +kernel
theorem dL_jam_3 : decode cL_jam 3 = .ok (.iload_n 1, 1) := by decide +kernel
theorem dL_jam_4 : decode cL_jam 4 = .ok (.iload_n 2, 1) := by decide +kernel
theorem dL_jam_5 : decode cL_jam 5 = .ok (.invokevirtual 27, 3) := by decide +kernel
theorem dL_jam_8 : decode cL_jam 8 = .ok (.i2l, 1) := by decide +kernel
theorem dL_jam_9 : decode cL_jam 9 = .ok (.lastore, 1) := by decide +kernel
theorem dL_jam_10 : decode cL_jam 10 = .ok (.goto 11, 3) := by decide +kernel
theorem dL_jam_13 : decode cL_jam 13 = .ok (.astore 4, 2) := by decide +kernel
theorem dL_jam_15 : decode cL_jam 15 = .ok (.iconst 1, 1) := by decide +kernel
theorem dL_jam_16 : decode cL_jam 16 = .ok (.ireturn, 1) := by decide +kernel
theorem dL_jam_17 : decode cL_jam 17 = .ok (.astore 4, 2) := by decide +kernel
theorem dL_jam_19 : decode cL_jam 19 = .ok (.iconst 2, 1) := by decide +kernel
theorem dL_jam_20 : decode cL_jam 20 = .ok (.ireturn, 1) := by decide +kernel
theorem dL_jam_21 : decode cL_jam 21 = .ok (.iconst 0, 1) := by decide +kernel
theorem dL_jam_22 : decode cL_jam 22 = .ok (.ireturn, 1) := by decide +kernel
set_option maxHeartbeats 4000000 in
set_option maxRecDepth 20000 in
theorem wL_jam {l : Launch} {D : va_G} {Y : Nat → ClassId} {q : Nat → Nat} {o : Nat} {f : Nat → Int64} {a1 a2 : Int32} {u u1 : St} {k : Nat} {r : Int32} (hX : pX6_jam a1 a2 u = some (k, r, u1)) (hk : k = 0 ∨ k = 1 ∨ k = 2) (hl9 : l.stackTraces = false) : CMw l yL_jam cL_jam 5 [(0, 10, 13, 13), (0, 10, 17, 21)] 7 113 D Y (wC Y q u ++ outW Y o f) (wC Y q u1 ++ outW Y o (if k = 0 then vp_updL f 0 r.toInt64 else f)) [.ref (q 0), .int a1, .int a2, .ref o] (if k = 0 then 0 else if k = 1 then 1 else if k = 2 then 2 else 0) := by
  refine cm_ofw (by decide) (Nat.le_of_ble_eq_true rfl) rfl (fun p e s m args below meth c A F hr hlk hT hct => ?_)
  show GW p l e { frames := 7, cells := 1, slots := 6, locals := 113 } s m args below meth c D A 5 0 0 (MQ below (QI D (wC Y q u1 ++ outW Y o (if k = 0 then vp_updL f 0 r.toInt64 else f)) (if k = 0 then 0 else if k = 1 then 1 else if k = 2 then 2 else 0) A) args s 1 6 A) (wC Y q u ++ outW Y o f) 0 [(0, .ref (q 0)), (1, .int a1), (2, .int a2), (3, .ref o)] []
  refine g_aload_n F dL_jam_0 3 rfl rfl ?_
  refine g_iconst (v := 0) F dL_jam_1 (by decide) ?_
  refine g_aload_n F dL_jam_2 0 rfl rfl ?_
  refine g_iload_n F dL_jam_3 1 rfl rfl ?_
  refine g_iload_n F dL_jam_4 2 rfl rfl ?_
  refine g_callT false (n := 2) (q0 := 0) (As := [.int a1, .int a2]) (wc := wC Y q u) (w1 := wC Y q u1) (ws1 := (wC Y q u1 ++ outW Y o f)) F hT [] (outW Y o f) (kX6_jam hX hl9) rfl rfl (by unfold mOK; decide +kernel) rfl rfl cd_yX6_jam ml_L_27 im_yX6_jam se_yX6_jam in_X6 rfl rfl ⟨Nat.le_of_ble_eq_true rfl, Nat.le_of_ble_eq_true rfl⟩ ⟨Nat.le_of_ble_eq_true rfl, Nat.le_of_ble_eq_true rfl⟩ rfl (Nat.le_of_ble_eq_true rfl) dL_jam_5 (fun k0 => ?_) (fun k0 => ?_)
  · rcases hk with hk | hk | hk
    · exact absurd hk k0
    · subst hk
      refine g_catch F hT hct [] (0, 10, 13, 13) [(0, 10, 17, 21)] rfl (fun z hz => ?_) (by decide) (by decide) (by decide) cl_L_13 (fun q9 => ?_)
      · cases hz
      · show GW _ _ _ _ _ _ _ _ _ _ _ _ _ _ _ _ (wC Y q u1 ++ outW Y o f) 13 _ _
        refine g_astore (lv' := [(4, .ref q9), (0, .ref (q 0)), (1, .int a1), (2, .int a2), (3, .ref o)]) F dL_jam_13 (by decide) rfl ?_
        refine g_iconst (v := 1) F dL_jam_15 (by decide) ?_
        exact g_iret F hr rfl hlk dL_jam_16
    · subst hk
      refine g_catch F hT hct [(0, 10, 13, 13)] (0, 10, 17, 21) [] rfl (fun z hz => ?_) (by decide) (by decide) (by decide) cl_L_21 (fun q9 => ?_)
      · simp only [List.mem_cons, List.not_mem_nil, or_false] at hz
        rcases hz with rfl
        · exact ⟨1, by decide, by decide, by decide, by decide, cl_L_13⟩
      · show GW _ _ _ _ _ _ _ _ _ _ _ _ _ _ _ _ (wC Y q u1 ++ outW Y o f) 17 _ _
        refine g_astore (lv' := [(4, .ref q9), (0, .ref (q 0)), (1, .int a1), (2, .int a2), (3, .ref o)]) F dL_jam_17 (by decide) rfl ?_
        refine g_iconst (v := 2) F dL_jam_19 (by decide) ?_
        exact g_iret F hr rfl hlk dL_jam_20
  · subst k0
    refine g_i2l (v := r.toInt64) F dL_jam_8 rfl ?_
    refine g_last F 50 rfl (by unfold vp_in; decide) dL_jam_9 (ws' := wC Y q u1 ++ outW Y o (vp_updL f 0 r.toInt64)) rfl ?_
    refine g_goto (tgt := 21) F dL_jam_10 (by decide) ?_
    refine g_iconst (v := 0) F dL_jam_21 (by decide) ?_
    exact g_iret F hr rfl hlk dL_jam_22
theorem cw_yL_crane : Cond.codeWith yL_crane cL_crane 6 (some .int) [(0, 9, 12, 13), (0, 9, 16, 21)] ∈ TBL := tb_2 191 (by decide +kernel) rfl
theorem dL_crane_0 : decode cL_crane 0 = .ok (.aload_n 0, 1) := by decide +kernel
theorem dL_crane_1 : decode cL_crane 1 = .ok (.iload_n 1, 1) := by decide +kernel
theorem dL_crane_2 : decode cL_crane 2 = .ok (.iload_n 2, 1) := by decide +kernel
theorem dL_crane_3 : decode cL_crane 3 = .ok (.iload_n 3, 1) := by decide +kernel
theorem dL_crane_4 : decode cL_crane 4 = .ok (.iload 4, 2) := by decide +kernel
theorem dL_crane_6 : decode cL_crane 6 = .ok (.invokevirtual 30, 3) := by decide +kernel
theorem dL_crane_9 : decode cL_crane 9 = .ok (.goto 11, 3) := by decide +kernel
theorem dL_crane_12 : decode cL_crane 12 = .ok (.astore 5, 2) := by decide +kernel
theorem dL_crane_14 : decode cL_crane 14 = .ok (.iconst 1, 1) := by decide +kernel
theorem dL_crane_15 : decode cL_crane 15 = .ok (.ireturn, 1) := by decide +kernel
theorem dL_crane_16 : decode cL_crane 16 = .ok (.astore 5, 2) := by decide +kernel
theorem dL_crane_18 : decode cL_crane 18 = .ok (.iconst 2, 1) := by decide +kernel
theorem dL_crane_19 : decode cL_crane 19 = .ok (.ireturn, 1) := by decide +kernel
theorem dL_crane_20 : decode cL_crane 20 = .ok (.iconst 0, 1) := by decide +kernel
theorem dL_crane_21 : decode cL_crane 21 = .ok (.ireturn, 1) := by decide +kernel
set_option maxHeartbeats 4000000 in
set_option maxRecDepth 20000 in
theorem wL_crane {l : Launch} {D : va_G} {Y : Nat → ClassId} {q : Nat → Nat} {a1 a2 a3 a4 : Int32} {u u1 : St} {k : Nat} {r : Int32} (hX : pX6_crane a1 a2 a3 a4 u = some (k, r, u1)) (hk : k = 0 ∨ k = 1 ∨ k = 2) (hl9 : l.stackTraces = false) : CMw l yL_crane cL_crane 6 [(0, 9, 12, 13), (0, 9, 16, 21)] 7 114 D Y (wC Y q u) (wC Y q u1) [.ref (q 0), .int a1, .int a2, .int a3, .int a4] (if k = 0 then 0 else if k = 1 then 1 else if k = 2 then 2 else 0) := by
  refine cm_ofw (by decide) (Nat.le_of_ble_eq_true rfl) rfl (fun p e s m args below meth c A F hr hlk hT hct => ?_)
  show GW p l e { frames := 7, cells := 1, slots := 6, locals := 114 } s m args below meth c D A 6 0 0 (MQ below (QI D (wC Y q u1) (if k = 0 then 0 else if k = 1 then 1 else if k = 2 then 2 else 0) A) args s 1 6 A) (wC Y q u) 0 [(0, .ref (q 0)), (1, .int a1), (2, .int a2), (3, .int a3), (4, .int a4)] []
  refine g_aload_n F dL_crane_0 0 rfl rfl ?_
  refine g_iload_n F dL_crane_1 1 rfl rfl ?_
  refine g_iload_n F dL_crane_2 2 rfl rfl ?_
  refine g_iload_n F dL_crane_3 3 rfl rfl ?_
  refine g_iload F dL_crane_4 4 rfl ?_
  refine g_callT true (n := 4) (q0 := 0) (As := [.int a1, .int a2, .int a3, .int a4]) (wc := wC Y q u) (w1 := wC Y q u1) (ws1 := (wC Y q u1)) F hT [] [] (kX6_crane hX hl9) (List.append_nil _).symm (List.append_nil _) (by unfold mOK; decide +kernel) rfl rfl cd_yX6_crane ml_L_30 im_yX6_crane se_yX6_crane in_X6 rfl rfl ⟨Nat.le_of_ble_eq_true rfl, Nat.le_of_ble_eq_true rfl⟩ ⟨Nat.le_of_ble_eq_true rfl, Nat.le_of_ble_eq_true rfl⟩ rfl (Nat.le_of_ble_eq_true rfl) dL_crane_6 (fun k0 => ?_) (fun k0 => ?_)
  · rcases hk with hk | hk | hk
    · exact absurd hk k0
    · subst hk
      refine g_catch F hT hct [] (0, 9, 12, 13) [(0, 9, 16, 21)] rfl (fun z hz => ?_) (by decide) (by decide) (by decide) cl_L_13 (fun q9 => ?_)
      · cases hz
      · show GW _ _ _ _ _ _ _ _ _ _ _ _ _ _ _ _ (wC Y q u1) 12 _ _
        refine g_astore (lv' := [(5, .ref q9), (0, .ref (q 0)), (1, .int a1), (2, .int a2), (3, .int a3), (4, .int a4)]) F dL_crane_12 (by decide) rfl ?_
        refine g_iconst (v := 1) F dL_crane_14 (by decide) ?_
        exact g_iret F hr rfl hlk dL_crane_15
    · subst hk
      refine g_catch F hT hct [(0, 9, 12, 13)] (0, 9, 16, 21) [] rfl (fun z hz => ?_) (by decide) (by decide) (by decide) cl_L_21 (fun q9 => ?_)
      · simp only [List.mem_cons, List.not_mem_nil, or_false] at hz
        rcases hz with rfl
        · exact ⟨1, by decide, by decide, by decide, by decide, cl_L_13⟩
      · show GW _ _ _ _ _ _ _ _ _ _ _ _ _ _ _ _ (wC Y q u1) 16 _ _
        refine g_astore (lv' := [(5, .ref q9), (0, .ref (q 0)), (1, .int a1), (2, .int a2), (3, .int a3), (4, .int a4)]) F dL_crane_16 (by decide) rfl ?_
        refine g_iconst (v := 2) F dL_crane_18 (by decide) ?_
        exact g_iret F hr rfl hlk dL_crane_19
  · subst k0
    refine g_goto (tgt := 20) F dL_crane_9 (by decide) ?_
    refine g_iconst (v := 0) F dL_crane_20 (by decide) ?_
    exact g_iret F hr rfl hlk dL_crane_21
theorem cw_yL_box : Cond.codeWith yL_box cL_box 8 (some .int) [(0, 16, 19, 13), (0, 16, 23, 21), (0, 16, 27, 15)] ∈ TBL := tb_2 204 (by decide +kernel) rfl
theorem dL_box_0 : decode cL_box 0 = .ok (.aload 6, 2) := by decide +kernel
theorem dL_box_2 : decode cL_box 2 = .ok (.iconst 0, 1) := by decide +kernel
theorem dL_box_3 : decode cL_box 3 = .ok (.aload_n 0, 1) := by decide +kernel
theorem dL_box_4 : decode cL_box 4 = .ok (.iload_n 1, 1) := by decide +kernel
theorem dL_box_5 : decode cL_box 5 = .ok (.iload_n 2, 1) := by decide +kernel
theorem dL_box_6 : decode cL_box 6 = .ok (.iload_n 3, 1) := by decide +kernel
theorem dL_box_7 : decode cL_box 7 = .ok (.iload 4, 2) := by decide +kernel
theorem dL_box_9 : decode cL_box 9 = .ok (.iload 5, 2) := by decide +kernel
theorem dL_box_11 : decode cL_box 11 = .ok (.invokevirtual 34, 3) := by decide +kernel
theorem dL_box_14 : decode cL_box 14 = .ok (.i2l, 1) := by decide +kernel
theorem dL_box_15 : decode cL_box 15 = .ok (.lastore, 1) := by decide +kernel
theorem dL_box_16 : decode cL_box 16 = .ok (.goto 15, 3) := by decide +kernel
theorem dL_box_19 : decode cL_box 19 = .ok (.astore 7, 2) := by decide +kernel
theorem dL_box_21 : decode cL_box 21 = .ok (.iconst 1, 1) := by decide +kernel
theorem dL_box_22 : decode cL_box 22 = .ok (.ireturn, 1) := by decide +kernel
theorem dL_box_23 : decode cL_box 23 = .ok (.astore 7, 2) := by decide +kernel
theorem dL_box_25 : decode cL_box 25 = .ok (.iconst 2, 1) := by decide +kernel
theorem dL_box_26 : decode cL_box 26 = .ok (.ireturn, 1) := by decide +kernel
theorem dL_box_27 : decode cL_box 27 = .ok (.astore 7, 2) := by decide +kernel
theorem dL_box_29 : decode cL_box 29 = .ok (.iconst 3, 1) := by decide +kernel
theorem dL_box_30 : decode cL_box 30 = .ok (.ireturn, 1) := by decide +kernel
theorem dL_box_31 : decode cL_box 31 = .ok (.iconst 0, 1) := by decide +kernel
theorem dL_box_32 : decode cL_box 32 = .ok (.ireturn, 1) := by decide +kernel
set_option maxHeartbeats 4000000 in
set_option maxRecDepth 20000 in
theorem wL_box {l : Launch} {D : va_G} {Y : Nat → ClassId} {q : Nat → Nat} {o : Nat} {f : Nat → Int64} {a1 a2 a3 a4 a5 : Int32} {u u1 : St} {k : Nat} {r : Int32} (hX : pX6_box a1 a2 a3 a4 a5 u = some (k, r, u1)) (hk : k = 0 ∨ k = 1 ∨ k = 2 ∨ k = 3) (hl9 : l.stackTraces = false) : CMw l yL_box cL_box 8 [(0, 16, 19, 13), (0, 16, 23, 21), (0, 16, 27, 15)] 7 116 D Y (wC Y q u ++ outW Y o f) (wC Y q u1 ++ outW Y o (if k = 0 then vp_updL f 0 r.toInt64 else f)) [.ref (q 0), .int a1, .int a2, .int a3, .int a4, .int a5, .ref o] (if k = 0 then 0 else if k = 1 then 1 else if k = 2 then 2 else if k = 3 then 3 else 0) := by
  refine cm_ofw (by decide) (Nat.le_of_ble_eq_true rfl) rfl (fun p e s m args below meth c A F hr hlk hT hct => ?_)
  show GW p l e { frames := 7, cells := 1, slots := 6, locals := 116 } s m args below meth c D A 8 0 0 (MQ below (QI D (wC Y q u1 ++ outW Y o (if k = 0 then vp_updL f 0 r.toInt64 else f)) (if k = 0 then 0 else if k = 1 then 1 else if k = 2 then 2 else if k = 3 then 3 else 0) A) args s 1 6 A) (wC Y q u ++ outW Y o f) 0 [(0, .ref (q 0)), (1, .int a1), (2, .int a2), (3, .int a3), (4, .int a4), (5, .int a5), (6, .ref o)] []
  refine g_aload F dL_box_0 6 rfl ?_
  refine g_iconst (v := 0) F dL_box_2 (by decide) ?_
  refine g_aload_n F dL_box_3 0 rfl rfl ?_
  refine g_iload_n F dL_box_4 1 rfl rfl ?_
  refine g_iload_n F dL_box_5 2 rfl rfl ?_
  refine g_iload_n F dL_box_6 3 rfl rfl ?_
  refine g_iload F dL_box_7 4 rfl ?_
  refine g_iload F dL_box_9 5 rfl ?_
  refine g_callT false (n := 5) (q0 := 0) (As := [.int a1, .int a2, .int a3, .int a4, .int a5]) (wc := wC Y q u) (w1 := wC Y q u1) (ws1 := (wC Y q u1 ++ outW Y o f)) F hT [] (outW Y o f) (kX6_box hX hl9) rfl rfl (by unfold mOK; decide +kernel) rfl rfl cd_yX6_box ml_L_34 im_yX6_box se_yX6_box in_X6 rfl rfl ⟨Nat.le_of_ble_eq_true rfl, Nat.le_of_ble_eq_true rfl⟩ ⟨Nat.le_of_ble_eq_true rfl, Nat.le_of_ble_eq_true rfl⟩ rfl (Nat.le_of_ble_eq_true rfl) dL_box_11 (fun k0 => ?_) (fun k0 => ?_)
  · rcases hk with hk | hk | hk | hk
    · exact absurd hk k0
    · subst hk
      refine g_catch F hT hct [] (0, 16, 19, 13) [(0, 16, 23, 21), (0, 16, 27, 15)] rfl (fun z hz => ?_) (by decide) (by decide) (by decide) cl_L_13 (fun q9 => ?_)
      · cases hz
      · show GW _ _ _ _ _ _ _ _ _ _ _ _ _ _ _ _ (wC Y q u1 ++ outW Y o f) 19 _ _
        refine g_astore (lv' := [(7, .ref q9), (0, .ref (q 0)), (1, .int a1), (2, .int a2), (3, .int a3), (4, .int a4), (5, .int a5), (6, .ref o)]) F dL_box_19 (by decide) rfl ?_
        refine g_iconst (v := 1) F dL_box_21 (by decide) ?_
        exact g_iret F hr rfl hlk dL_box_22
    · subst hk
      refine g_catch F hT hct [(0, 16, 19, 13)] (0, 16, 23, 21) [(0, 16, 27, 15)] rfl (fun z hz => ?_) (by decide) (by decide) (by decide) cl_L_21 (fun q9 => ?_)
      · simp only [List.mem_cons, List.not_mem_nil, or_false] at hz
        rcases hz with rfl
        · exact ⟨1, by decide, by decide, by decide, by decide, cl_L_13⟩
      · show GW _ _ _ _ _ _ _ _ _ _ _ _ _ _ _ _ (wC Y q u1 ++ outW Y o f) 23 _ _
        refine g_astore (lv' := [(7, .ref q9), (0, .ref (q 0)), (1, .int a1), (2, .int a2), (3, .int a3), (4, .int a4), (5, .int a5), (6, .ref o)]) F dL_box_23 (by decide) rfl ?_
        refine g_iconst (v := 2) F dL_box_25 (by decide) ?_
        exact g_iret F hr rfl hlk dL_box_26
    · subst hk
      refine g_catch F hT hct [(0, 16, 19, 13), (0, 16, 23, 21)] (0, 16, 27, 15) [] rfl (fun z hz => ?_) (by decide) (by decide) (by decide) cl_L_15 (fun q9 => ?_)
      · simp only [List.mem_cons, List.not_mem_nil, or_false] at hz
        rcases hz with rfl | rfl
        · exact ⟨1, by decide, by decide, by decide, by decide, cl_L_13⟩
        · exact ⟨2, by decide, by decide, by decide, by decide, cl_L_21⟩
      · show GW _ _ _ _ _ _ _ _ _ _ _ _ _ _ _ _ (wC Y q u1 ++ outW Y o f) 27 _ _
        refine g_astore (lv' := [(7, .ref q9), (0, .ref (q 0)), (1, .int a1), (2, .int a2), (3, .int a3), (4, .int a4), (5, .int a5), (6, .ref o)]) F dL_box_27 (by decide) rfl ?_
        refine g_iconst (v := 3) F dL_box_29 (by decide) ?_
        exact g_iret F hr rfl hlk dL_box_30
  · subst k0
    refine g_i2l (v := r.toInt64) F dL_box_14 rfl ?_
    refine g_last F 50 rfl (by unfold vp_in; decide) dL_box_15 (ws' := wC Y q u1 ++ outW Y o (vp_updL f 0 r.toInt64)) rfl ?_
    refine g_goto (tgt := 31) F dL_box_16 (by decide) ?_
    refine g_iconst (v := 0) F dL_box_31 (by decide) ?_
    exact g_iret F hr rfl hlk dL_box_32
theorem cw_yL_paper : Cond.codeWith yL_paper cL_paper 5 (some .int) [(0, 17, 20, 13)] ∈ TBL := tb_3 14 (by decide +kernel) rfl
theorem dL_paper_0 : decode cL_paper 0 = .ok (.aload_n 3, 1) := by decide +kernel
theorem dL_paper_1 : decode cL_paper 1 = .ok (.iconst 0, 1) := by decide +kernel
theorem dL_paper_2 : decode cL_paper 2 = .ok (.aload_n 0, 1) := by decide +kernel
theorem dL_paper_3 : decode cL_paper 3 = .ok (.iload_n 1, 1) := by decide +kernel
theorem dL_paper_4 : decode cL_paper 4 = .ok (.iload_n 2, 1) := by decide +kernel
theorem dL_paper_5 : decode cL_paper 5 = .ok (.invokevirtual 38, 3) := by decide +kernel
theorem dL_paper_8 : decode cL_paper 8 = .ok (.ifCond .eq 7, 3) := by decide +kernel
theorem dL_paper_11 : decode cL_paper 11 = .ok (.lconst 1, 1) := by decide +kernel
theorem dL_paper_12 : decode cL_paper 12 = .ok (.goto 4, 3) := by decide +kernel
theorem dL_paper_15 : decode cL_paper 15 = .ok (.lconst 0, 1) := by decide +kernel
theorem dL_paper_16 : decode cL_paper 16 = .ok (.lastore, 1) := by decide +kernel
theorem dL_paper_17 : decode cL_paper 17 = .ok (.goto 7, 3) := by decide +kernel
theorem dL_paper_20 : decode cL_paper 20 = .ok (.astore 4, 2) := by decide +kernel
theorem dL_paper_22 : decode cL_paper 22 = .ok (.iconst 1, 1) := by decide +kernel
theorem dL_paper_23 : decode cL_paper 23 = .ok (.ireturn, 1) := by decide +kernel
theorem dL_paper_24 : decode cL_paper 24 = .ok (.iconst 0, 1) := by decide +kernel
theorem dL_paper_25 : decode cL_paper 25 = .ok (.ireturn, 1) := by decide +kernel
set_option maxHeartbeats 4000000 in
set_option maxRecDepth 20000 in
theorem wL_paper {l : Launch} {D : va_G} {Y : Nat → ClassId} {q : Nat → Nat} {o : Nat} {f : Nat → Int64} {a1 a2 : Int32} {u u1 : St} {k : Nat} {r : Int32} (hX : pX6_paper a1 a2 u = some (k, r, u1)) (hk : k = 0 ∨ k = 1) (hl9 : l.stackTraces = false) : CMw l yL_paper cL_paper 5 [(0, 17, 20, 13)] 7 112 D Y (wC Y q u ++ outW Y o f) (wC Y q u1 ++ outW Y o (if k = 0 then vp_updL f 0 (if r = 0 then (0 : Int64) else 1) else f)) [.ref (q 0), .int a1, .int a2, .ref o] (if k = 0 then 0 else if k = 1 then 1 else 0) := by
  refine cm_ofw (by decide) (Nat.le_of_ble_eq_true rfl) rfl (fun p e s m args below meth c A F hr hlk hT hct => ?_)
  show GW p l e { frames := 7, cells := 1, slots := 6, locals := 112 } s m args below meth c D A 5 0 0 (MQ below (QI D (wC Y q u1 ++ outW Y o (if k = 0 then vp_updL f 0 (if r = 0 then (0 : Int64) else 1) else f)) (if k = 0 then 0 else if k = 1 then 1 else 0) A) args s 1 6 A) (wC Y q u ++ outW Y o f) 0 [(0, .ref (q 0)), (1, .int a1), (2, .int a2), (3, .ref o)] []
  refine g_aload_n F dL_paper_0 3 rfl rfl ?_
  refine g_iconst (v := 0) F dL_paper_1 (by decide) ?_
  refine g_aload_n F dL_paper_2 0 rfl rfl ?_
  refine g_iload_n F dL_paper_3 1 rfl rfl ?_
  refine g_iload_n F dL_paper_4 2 rfl rfl ?_
  refine g_callT false (n := 2) (q0 := 0) (As := [.int a1, .int a2]) (wc := wC Y q u) (w1 := wC Y q u1) (ws1 := (wC Y q u1 ++ outW Y o f)) F hT [] (outW Y o f) (kX6_paper hX hl9) rfl rfl (by unfold mOK; decide +kernel) rfl rfl cd_yX6_paper ml_L_38 im_yX6_paper se_yX6_paper in_X6 rfl rfl ⟨Nat.le_of_ble_eq_true rfl, Nat.le_of_ble_eq_true rfl⟩ ⟨Nat.le_of_ble_eq_true rfl, Nat.le_of_ble_eq_true rfl⟩ rfl (Nat.le_of_ble_eq_true rfl) dL_paper_5 (fun k0 => ?_) (fun k0 => ?_)
  · rcases hk with hk | hk
    · exact absurd hk k0
    · subst hk
      refine g_catch F hT hct [] (0, 17, 20, 13) [] rfl (fun z hz => ?_) (by decide) (by decide) (by decide) cl_L_13 (fun q9 => ?_)
      · cases hz
      · show GW _ _ _ _ _ _ _ _ _ _ _ _ _ _ _ _ (wC Y q u1 ++ outW Y o f) 20 _ _
        refine g_astore (lv' := [(4, .ref q9), (0, .ref (q 0)), (1, .int a1), (2, .int a2), (3, .ref o)]) F dL_paper_20 (by decide) rfl ?_
        refine g_iconst (v := 1) F dL_paper_22 (by decide) ?_
        exact g_iret F hr rfl hlk dL_paper_23
  · subst k0
    refine g_if_eq (tgt := 15) F dL_paper_8 (by decide) (fun c1 => ?_) (fun c1 => ?_)
    · rw [if_pos c1]
      refine g_lconst (v := 0) F dL_paper_15 rfl ?_
      refine g_last F 50 rfl (by unfold vp_in; decide) dL_paper_16 (ws' := wC Y q u1 ++ outW Y o (vp_updL f 0 0)) rfl ?_
      refine g_goto (tgt := 24) F dL_paper_17 (by decide) ?_
      refine g_iconst (v := 0) F dL_paper_24 (by decide) ?_
      exact g_iret F hr rfl hlk dL_paper_25
    · rw [if_neg c1]
      refine g_lconst (v := 1) F dL_paper_11 rfl ?_
      refine g_goto (tgt := 16) F dL_paper_12 (by decide) ?_
      refine g_last F 50 rfl (by unfold vp_in; decide) dL_paper_16 (ws' := wC Y q u1 ++ outW Y o (vp_updL f 0 1)) rfl ?_
      refine g_goto (tgt := 24) F dL_paper_17 (by decide) ?_
      refine g_iconst (v := 0) F dL_paper_24 (by decide) ?_
      exact g_iret F hr rfl hlk dL_paper_25
theorem cw_yL_skip : Cond.codeWith yL_skip cL_skip 4 (some .int) [(0, 9, 12, 13), (0, 9, 15, 15)] ∈ TBL := tb_3 31 (by decide +kernel) rfl
theorem dL_skip_0 : decode cL_skip 0 = .ok (.aload_n 2, 1) := by decide +kernel
theorem dL_skip_1 : decode cL_skip 1 = .ok (.iconst 0, 1) := by decide +kernel
theorem dL_skip_2 : decode cL_skip 2 = .ok (.aload_n 0, 1) := by decide +kernel
theorem dL_skip_3 : decode cL_skip 3 = .ok (.iload_n 1, 1) := by decide +kernel
theorem dL_skip_4 : decode cL_skip 4 = .ok (.invokevirtual 42, 3) := by decide +kernel
theorem dL_skip_7 : decode cL_skip 7 = .ok (.i2l, 1) := by decide +kernel
theorem dL_skip_8 : decode cL_skip 8 = .ok (.lastore, 1) := by decide +kernel
theorem dL_skip_9 : decode cL_skip 9 = .ok (.goto 9, 3) := by decide +kernel
theorem dL_skip_12 : decode cL_skip 12 = .ok (.astore_n 3, 1) := by decide +kernel
theorem dL_skip_13 : decode cL_skip 13 = .ok (.iconst 1, 1) := by decide +kernel
theorem dL_skip_14 : decode cL_skip 14 = .ok (.ireturn, 1) := by decide +kernel
theorem dL_skip_15 : decode cL_skip 15 = .ok (.astore_n 3, 1) := by decide +kernel
theorem dL_skip_16 : decode cL_skip 16 = .ok (.iconst 2, 1) := by decide +kernel
theorem dL_skip_17 : decode cL_skip 17 = .ok (.ireturn, 1) := by decide +kernel
theorem dL_skip_18 : decode cL_skip 18 = .ok (.iconst 0, 1) := by decide +kernel
theorem dL_skip_19 : decode cL_skip 19 = .ok (.ireturn, 1) := by decide +kernel
set_option maxHeartbeats 4000000 in
set_option maxRecDepth 20000 in
theorem wL_skip {l : Launch} {D : va_G} {Y : Nat → ClassId} {q : Nat → Nat} {o : Nat} {f : Nat → Int64} {a1 : Int32} {u u1 : St} {k : Nat} {r : Int32} (hX : pX6_skip a1 u = some (k, r, u1)) (hk : k = 0 ∨ k = 1 ∨ k = 3) (hl9 : l.stackTraces = false) : CMw l yL_skip cL_skip 4 [(0, 9, 12, 13), (0, 9, 15, 15)] 7 114 D Y (wC Y q u ++ outW Y o f) (wC Y q u1 ++ outW Y o (if k = 0 then vp_updL f 0 r.toInt64 else f)) [.ref (q 0), .int a1, .ref o] (if k = 0 then 0 else if k = 1 then 1 else if k = 3 then 2 else 0) := by
  refine cm_ofw (by decide) (Nat.le_of_ble_eq_true rfl) rfl (fun p e s m args below meth c A F hr hlk hT hct => ?_)
  show GW p l e { frames := 7, cells := 1, slots := 6, locals := 114 } s m args below meth c D A 4 0 0 (MQ below (QI D (wC Y q u1 ++ outW Y o (if k = 0 then vp_updL f 0 r.toInt64 else f)) (if k = 0 then 0 else if k = 1 then 1 else if k = 3 then 2 else 0) A) args s 1 6 A) (wC Y q u ++ outW Y o f) 0 [(0, .ref (q 0)), (1, .int a1), (2, .ref o)] []
  refine g_aload_n F dL_skip_0 2 rfl rfl ?_
  refine g_iconst (v := 0) F dL_skip_1 (by decide) ?_
  refine g_aload_n F dL_skip_2 0 rfl rfl ?_
  refine g_iload_n F dL_skip_3 1 rfl rfl ?_
  refine g_callT false (n := 1) (q0 := 0) (As := [.int a1]) (wc := wC Y q u) (w1 := wC Y q u1) (ws1 := (wC Y q u1 ++ outW Y o f)) F hT [] (outW Y o f) (kX6_skip hX hl9) rfl rfl (by unfold mOK; decide +kernel) rfl rfl cd_yX6_skip ml_L_42 im_yX6_skip se_yX6_skip in_X6 rfl rfl ⟨Nat.le_of_ble_eq_true rfl, Nat.le_of_ble_eq_true rfl⟩ ⟨Nat.le_of_ble_eq_true rfl, Nat.le_of_ble_eq_true rfl⟩ rfl (Nat.le_of_ble_eq_true rfl) dL_skip_4 (fun k0 => ?_) (fun k0 => ?_)
  · rcases hk with hk | hk | hk
    · exact absurd hk k0
    · subst hk
      refine g_catch F hT hct [] (0, 9, 12, 13) [(0, 9, 15, 15)] rfl (fun z hz => ?_) (by decide) (by decide) (by decide) cl_L_13 (fun q9 => ?_)
      · cases hz
      · show GW _ _ _ _ _ _ _ _ _ _ _ _ _ _ _ _ (wC Y q u1 ++ outW Y o f) 12 _ _
        refine g_astore_n (lv' := [(3, .ref q9), (0, .ref (q 0)), (1, .int a1), (2, .ref o)]) F dL_skip_12 rfl (by decide) rfl ?_
        refine g_iconst (v := 1) F dL_skip_13 (by decide) ?_
        exact g_iret F hr rfl hlk dL_skip_14
    · subst hk
      refine g_catch F hT hct [(0, 9, 12, 13)] (0, 9, 15, 15) [] rfl (fun z hz => ?_) (by decide) (by decide) (by decide) cl_L_15 (fun q9 => ?_)
      · simp only [List.mem_cons, List.not_mem_nil, or_false] at hz
        rcases hz with rfl
        · exact ⟨1, by decide, by decide, by decide, by decide, cl_L_13⟩
      · show GW _ _ _ _ _ _ _ _ _ _ _ _ _ _ _ _ (wC Y q u1 ++ outW Y o f) 15 _ _
        refine g_astore_n (lv' := [(3, .ref q9), (0, .ref (q 0)), (1, .int a1), (2, .ref o)]) F dL_skip_15 rfl (by decide) rfl ?_
        refine g_iconst (v := 2) F dL_skip_16 (by decide) ?_
        exact g_iret F hr rfl hlk dL_skip_17
  · subst k0
    refine g_i2l (v := r.toInt64) F dL_skip_7 rfl ?_
    refine g_last F 50 rfl (by unfold vp_in; decide) dL_skip_8 (ws' := wC Y q u1 ++ outW Y o (vp_updL f 0 r.toInt64)) rfl ?_
    refine g_goto (tgt := 18) F dL_skip_9 (by decide) ?_
    refine g_iconst (v := 0) F dL_skip_18 (by decide) ?_
    exact g_iret F hr rfl hlk dL_skip_19
theorem cw_yL_order : Cond.codeWith yL_order cL_order 6 (some .int) [(0, 12, 15, 21), (0, 12, 19, 13), (0, 12, 23, 15)] ∈ TBL := tb_3 48 (by decide +kernel) rfl
theorem dL_order_0 : decode cL_order 0 = .ok (.aload 4, 2) := by decide +kernel
theorem dL_order_2 : decode cL_order 2 = .ok (.iconst 0, 1) := by decide +kernel
theorem dL_order_3 : decode cL_order 3 = .ok (.aload_n 0, 1) := by decide +kernel
theorem dL_order_4 : decode cL_order 4 = .ok (.iload_n 1, 1) := by decide +kernel
theorem dL_order_5 : decode cL_order 5 = .ok (.iload_n 2, 1) := by decide +kernel
theorem dL_order_6 : decode cL_order 6 = .ok (.iload_n 3, 1) := by decide +kernel
theorem dL_order_7 : decode cL_order 7 = .ok (.invokevirtual 46, 3) := by decide +kernel
theorem dL_order_10 : decode cL_order 10 = .ok (.i2l, 1) := by decide +kernel
theorem dL_order_11 : decode cL_order 11 = .ok (.lastore, 1) := by decide +kernel
theorem dL_order_12 : decode cL_order 12 = .ok (.goto 15, 3) := by decide +kernel
theorem dL_order_15 : decode cL_order 15 = .ok (.astore 5, 2) := by decide +kernel
theorem dL_order_17 : decode cL_order 17 = .ok (.iconst 1, 1) := by decide +kernel
theorem dL_order_18 : decode cL_order 18 = .ok (.ireturn, 1) := by decide +kernel
theorem dL_order_19 : decode cL_order 19 = .ok (.astore 5, 2) := by decide +kernel
theorem dL_order_21 : decode cL_order 21 = .ok (.iconst 2, 1) := by decide +kernel
theorem dL_order_22 : decode cL_order 22 = .ok (.ireturn, 1) := by decide +kernel
theorem dL_order_23 : decode cL_order 23 = .ok (.astore 5, 2) := by decide +kernel
theorem dL_order_25 : decode cL_order 25 = .ok (.iconst 3, 1) := by decide +kernel
theorem dL_order_26 : decode cL_order 26 = .ok (.ireturn, 1) := by decide +kernel
theorem dL_order_27 : decode cL_order 27 = .ok (.iconst 0, 1) := by decide +kernel
theorem dL_order_28 : decode cL_order 28 = .ok (.ireturn, 1) := by decide +kernel
set_option maxHeartbeats 4000000 in
set_option maxRecDepth 20000 in
theorem wL_order {l : Launch} {D : va_G} {Y : Nat → ClassId} {q : Nat → Nat} {o : Nat} {f : Nat → Int64} {a1 a2 a3 : Int32} {u u1 : St} {k : Nat} {r : Int32} (hX : pX6_order a1 a2 a3 u = some (k, r, u1)) (hk : k = 0 ∨ k = 2 ∨ k = 1 ∨ k = 3) (hl9 : l.stackTraces = false) : CMw l yL_order cL_order 6 [(0, 12, 15, 21), (0, 12, 19, 13), (0, 12, 23, 15)] 7 113 D Y (wC Y q u ++ outW Y o f) (wC Y q u1 ++ outW Y o (if k = 0 then vp_updL f 0 r.toInt64 else f)) [.ref (q 0), .int a1, .int a2, .int a3, .ref o] (if k = 0 then 0 else if k = 2 then 1 else if k = 1 then 2 else if k = 3 then 3 else 0) := by
  refine cm_ofw (by decide) (Nat.le_of_ble_eq_true rfl) rfl (fun p e s m args below meth c A F hr hlk hT hct => ?_)
  show GW p l e { frames := 7, cells := 1, slots := 6, locals := 113 } s m args below meth c D A 6 0 0 (MQ below (QI D (wC Y q u1 ++ outW Y o (if k = 0 then vp_updL f 0 r.toInt64 else f)) (if k = 0 then 0 else if k = 2 then 1 else if k = 1 then 2 else if k = 3 then 3 else 0) A) args s 1 6 A) (wC Y q u ++ outW Y o f) 0 [(0, .ref (q 0)), (1, .int a1), (2, .int a2), (3, .int a3), (4, .ref o)] []
  refine g_aload F dL_order_0 4 rfl ?_
  refine g_iconst (v := 0) F dL_order_2 (by decide) ?_
  refine g_aload_n F dL_order_3 0 rfl rfl ?_
  refine g_iload_n F dL_order_4 1 rfl rfl ?_
  refine g_iload_n F dL_order_5 2 rfl rfl ?_
  refine g_iload_n F dL_order_6 3 rfl rfl ?_
  refine g_callT false (n := 3) (q0 := 0) (As := [.int a1, .int a2, .int a3]) (wc := wC Y q u) (w1 := wC Y q u1) (ws1 := (wC Y q u1 ++ outW Y o f)) F hT [] (outW Y o f) (kX6_order hX hl9) rfl rfl (by unfold mOK; decide +kernel) rfl rfl cd_yX6_order ml_L_46 im_yX6_order se_yX6_order in_X6 rfl rfl ⟨Nat.le_of_ble_eq_true rfl, Nat.le_of_ble_eq_true rfl⟩ ⟨Nat.le_of_ble_eq_true rfl, Nat.le_of_ble_eq_true rfl⟩ rfl (Nat.le_of_ble_eq_true rfl) dL_order_7 (fun k0 => ?_) (fun k0 => ?_)
  · rcases hk with hk | hk | hk | hk
    · exact absurd hk k0
    · subst hk
      refine g_catch F hT hct [] (0, 12, 15, 21) [(0, 12, 19, 13), (0, 12, 23, 15)] rfl (fun z hz => ?_) (by decide) (by decide) (by decide) cl_L_21 (fun q9 => ?_)
      · cases hz
      · show GW _ _ _ _ _ _ _ _ _ _ _ _ _ _ _ _ (wC Y q u1 ++ outW Y o f) 15 _ _
        refine g_astore (lv' := [(5, .ref q9), (0, .ref (q 0)), (1, .int a1), (2, .int a2), (3, .int a3), (4, .ref o)]) F dL_order_15 (by decide) rfl ?_
        refine g_iconst (v := 1) F dL_order_17 (by decide) ?_
        exact g_iret F hr rfl hlk dL_order_18
    · subst hk
      refine g_catch F hT hct [(0, 12, 15, 21)] (0, 12, 19, 13) [(0, 12, 23, 15)] rfl (fun z hz => ?_) (by decide) (by decide) (by decide) cl_L_13 (fun q9 => ?_)
      · simp only [List.mem_cons, List.not_mem_nil, or_false] at hz
        rcases hz with rfl
        · exact ⟨2, by decide, by decide, by decide, by decide, cl_L_21⟩
      · show GW _ _ _ _ _ _ _ _ _ _ _ _ _ _ _ _ (wC Y q u1 ++ outW Y o f) 19 _ _
        refine g_astore (lv' := [(5, .ref q9), (0, .ref (q 0)), (1, .int a1), (2, .int a2), (3, .int a3), (4, .ref o)]) F dL_order_19 (by decide) rfl ?_
        refine g_iconst (v := 2) F dL_order_21 (by decide) ?_
        exact g_iret F hr rfl hlk dL_order_22
    · subst hk
      refine g_catch F hT hct [(0, 12, 15, 21), (0, 12, 19, 13)] (0, 12, 23, 15) [] rfl (fun z hz => ?_) (by decide) (by decide) (by decide) cl_L_15 (fun q9 => ?_)
      · simp only [List.mem_cons, List.not_mem_nil, or_false] at hz
        rcases hz with rfl | rfl
        · exact ⟨2, by decide, by decide, by decide, by decide, cl_L_21⟩
        · exact ⟨1, by decide, by decide, by decide, by decide, cl_L_13⟩
      · show GW _ _ _ _ _ _ _ _ _ _ _ _ _ _ _ _ (wC Y q u1 ++ outW Y o f) 23 _ _
        refine g_astore (lv' := [(5, .ref q9), (0, .ref (q 0)), (1, .int a1), (2, .int a2), (3, .int a3), (4, .ref o)]) F dL_order_23 (by decide) rfl ?_
        refine g_iconst (v := 3) F dL_order_25 (by decide) ?_
        exact g_iret F hr rfl hlk dL_order_26
  · subst k0
    refine g_i2l (v := r.toInt64) F dL_order_10 rfl ?_
    refine g_last F 50 rfl (by unfold vp_in; decide) dL_order_11 (ws' := wC Y q u1 ++ outW Y o (vp_updL f 0 r.toInt64)) rfl ?_
    refine g_goto (tgt := 27) F dL_order_12 (by decide) ?_
    refine g_iconst (v := 0) F dL_order_27 (by decide) ?_
    exact g_iret F hr rfl hlk dL_order_28
theorem cw_yL_drop : Cond.codeWith yL_drop cL_drop 4 (some .int) [(0, 9, 12, 13)] ∈ TBL := tb_3 62 (by decide +kernel) rfl
theorem dL_drop_0 : decode cL_drop 0 = .ok (.aload_n 2, 1) := by decide +kernel
theorem dL_drop_1 : decode cL_drop 1 = .ok (.iconst 0, 1) := by decide +kernel
theorem dL_drop_2 : decode cL_drop 2 = .ok (.aload_n 0, 1) := by decide +kernel
theorem dL_drop_3 : decode cL_drop 3 = .ok (.iload_n 1, 1) := by decide +kernel
theorem dL_drop_4 : decode cL_drop 4 = .ok (.invokevirtual 50, 3) := by decide +kernel
theorem dL_drop_7 : decode cL_drop 7 = .ok (.i2l, 1) := by decide +kernel
theorem dL_drop_8 : decode cL_drop 8 = .ok (.lastore, 1) := by decide +kernel
theorem dL_drop_9 : decode cL_drop 9 = .ok (.goto 6, 3) := by decide +kernel
theorem dL_drop_12 : decode cL_drop 12 = .ok (.astore_n 3, 1) := by decide +kernel
theorem dL_drop_13 : decode cL_drop 13 = .ok (.iconst 1, 1) := by decide +kernel
theorem dL_drop_14 : decode cL_drop 14 = .ok (.ireturn, 1) := by decide +kernel
theorem dL_drop_15 : decode cL_drop 15 = .ok (.iconst 0, 1) := by decide +kernel
theorem dL_drop_16 : decode cL_drop 16 = .ok (.ireturn, 1) := by decide +kernel
set_option maxHeartbeats 4000000 in
set_option maxRecDepth 20000 in
theorem wL_drop {l : Launch} {D : va_G} {Y : Nat → ClassId} {q : Nat → Nat} {o : Nat} {f : Nat → Int64} {a1 : Int32} {u u1 : St} {k : Nat} {r : Int32} (hX : pX6_drop a1 u = some (k, r, u1)) (hk : k = 0 ∨ k = 1) (hl9 : l.stackTraces = false) : CMw l yL_drop cL_drop 4 [(0, 9, 12, 13)] 7 111 D Y (wC Y q u ++ outW Y o f) (wC Y q u1 ++ outW Y o (if k = 0 then vp_updL f 0 r.toInt64 else f)) [.ref (q 0), .int a1, .ref o] (if k = 0 then 0 else if k = 1 then 1 else 0) := by
  refine cm_ofw (by decide) (Nat.le_of_ble_eq_true rfl) rfl (fun p e s m args below meth c A F hr hlk hT hct => ?_)
  show GW p l e { frames := 7, cells := 1, slots := 6, locals := 111 } s m args below meth c D A 4 0 0 (MQ below (QI D (wC Y q u1 ++ outW Y o (if k = 0 then vp_updL f 0 r.toInt64 else f)) (if k = 0 then 0 else if k = 1 then 1 else 0) A) args s 1 6 A) (wC Y q u ++ outW Y o f) 0 [(0, .ref (q 0)), (1, .int a1), (2, .ref o)] []
  refine g_aload_n F dL_drop_0 2 rfl rfl ?_
  refine g_iconst (v := 0) F dL_drop_1 (by decide) ?_
  refine g_aload_n F dL_drop_2 0 rfl rfl ?_
  refine g_iload_n F dL_drop_3 1 rfl rfl ?_
  refine g_callT false (n := 1) (q0 := 0) (As := [.int a1]) (wc := wC Y q u) (w1 := wC Y q u1) (ws1 := (wC Y q u1 ++ outW Y o f)) F hT [] (outW Y o f) (kX6_drop hX hl9) rfl rfl (by unfold mOK; decide +kernel) rfl rfl cd_yX6_drop ml_L_50 im_yX6_drop se_yX6_drop in_X6 rfl rfl ⟨Nat.le_of_ble_eq_true rfl, Nat.le_of_ble_eq_true rfl⟩ ⟨Nat.le_of_ble_eq_true rfl, Nat.le_of_ble_eq_true rfl⟩ rfl (Nat.le_of_ble_eq_true rfl) dL_drop_4 (fun k0 => ?_) (fun k0 => ?_)
  · rcases hk with hk | hk
    · exact absurd hk k0
    · subst hk
      refine g_catch F hT hct [] (0, 9, 12, 13) [] rfl (fun z hz => ?_) (by decide) (by decide) (by decide) cl_L_13 (fun q9 => ?_)
      · cases hz
      · show GW _ _ _ _ _ _ _ _ _ _ _ _ _ _ _ _ (wC Y q u1 ++ outW Y o f) 12 _ _
        refine g_astore_n (lv' := [(3, .ref q9), (0, .ref (q 0)), (1, .int a1), (2, .ref o)]) F dL_drop_12 rfl (by decide) rfl ?_
        refine g_iconst (v := 1) F dL_drop_13 (by decide) ?_
        exact g_iret F hr rfl hlk dL_drop_14
  · subst k0
    refine g_i2l (v := r.toInt64) F dL_drop_7 rfl ?_
    refine g_last F 50 rfl (by unfold vp_in; decide) dL_drop_8 (ws' := wC Y q u1 ++ outW Y o (vp_updL f 0 r.toInt64)) rfl ?_
    refine g_goto (tgt := 15) F dL_drop_9 (by decide) ?_
    refine g_iconst (v := 0) F dL_drop_15 (by decide) ?_
    exact g_iret F hr rfl hlk dL_drop_16
theorem cw_yL_pass : Cond.codeWith yL_pass cL_pass 4 (some .int) [(0, 9, 12, 21), (0, 9, 15, 15)] ∈ TBL := tb_3 79 (by decide +kernel) rfl
theorem dL_pass_0 : decode cL_pass 0 = .ok (.aload_n 2, 1) := by decide +kernel
theorem dL_pass_1 : decode cL_pass 1 = .ok (.iconst 0, 1) := by decide +kernel
theorem dL_pass_2 : decode cL_pass 2 = .ok (.aload_n 0, 1) := by decide +kernel
theorem dL_pass_3 : decode cL_pass 3 = .ok (.iload_n 1, 1) := by decide +kernel
theorem dL_pass_4 : decode cL_pass 4 = .ok (.invokevirtual 53, 3) := by decide +kernel
theorem dL_pass_7 : decode cL_pass 7 = .ok (.i2l, 1) := by decide +kernel
theorem dL_pass_8 : decode cL_pass 8 = .ok (.lastore, 1) := by decide +kernel
theorem dL_pass_9 : decode cL_pass 9 = .ok (.goto 9, 3) := by decide +kernel
theorem dL_pass_12 : decode cL_pass 12 = .ok (.astore_n 3, 1) := by decide +kernel
theorem dL_pass_13 : decode cL_pass 13 = .ok (.iconst 1, 1) := by decide +kernel
theorem dL_pass_14 : decode cL_pass 14 = .ok (.ireturn, 1) := by decide +kernel
theorem dL_pass_15 : decode cL_pass 15 = .ok (.astore_n 3, 1) := by decide +kernel
theorem dL_pass_16 : decode cL_pass 16 = .ok (.iconst 2, 1) := by decide +kernel
theorem dL_pass_17 : decode cL_pass 17 = .ok (.ireturn, 1) := by decide +kernel
theorem dL_pass_18 : decode cL_pass 18 = .ok (.iconst 0, 1) := by decide +kernel
theorem dL_pass_19 : decode cL_pass 19 = .ok (.ireturn, 1) := by decide +kernel
set_option maxHeartbeats 4000000 in
set_option maxRecDepth 20000 in
theorem wL_pass {l : Launch} {D : va_G} {Y : Nat → ClassId} {q : Nat → Nat} {o : Nat} {f : Nat → Int64} {a1 : Int32} {u u1 : St} {k : Nat} {r : Int32} (hX : pX6_pass a1 u = some (k, r, u1)) (hk : k = 0 ∨ k = 2 ∨ k = 3) (hl9 : l.stackTraces = false) : CMw l yL_pass cL_pass 4 [(0, 9, 12, 21), (0, 9, 15, 15)] 8 178 D Y (wC Y q u ++ outW Y o f) (wC Y q u1 ++ outW Y o (if k = 0 then vp_updL f 0 r.toInt64 else f)) [.ref (q 0), .int a1, .ref o] (if k = 0 then 0 else if k = 2 then 1 else if k = 3 then 2 else 0) := by
  refine cm_ofw (by decide) (Nat.le_of_ble_eq_true rfl) rfl (fun p e s m args below meth c A F hr hlk hT hct => ?_)
  show GW p l e { frames := 8, cells := 1, slots := 6, locals := 178 } s m args below meth c D A 4 0 0 (MQ below (QI D (wC Y q u1 ++ outW Y o (if k = 0 then vp_updL f 0 r.toInt64 else f)) (if k = 0 then 0 else if k = 2 then 1 else if k = 3 then 2 else 0) A) args s 1 6 A) (wC Y q u ++ outW Y o f) 0 [(0, .ref (q 0)), (1, .int a1), (2, .ref o)] []
  refine g_aload_n F dL_pass_0 2 rfl rfl ?_
  refine g_iconst (v := 0) F dL_pass_1 (by decide) ?_
  refine g_aload_n F dL_pass_2 0 rfl rfl ?_
  refine g_iload_n F dL_pass_3 1 rfl rfl ?_
  refine g_callT false (n := 1) (q0 := 0) (As := [.int a1]) (wc := wC Y q u) (w1 := wC Y q u1) (ws1 := (wC Y q u1 ++ outW Y o f)) F hT [] (outW Y o f) (kX6_pass hX hl9) rfl rfl (by unfold mOK; decide +kernel) rfl rfl cd_yX6_pass ml_L_53 im_yX6_pass se_yX6_pass in_X6 rfl rfl ⟨Nat.le_of_ble_eq_true rfl, Nat.le_of_ble_eq_true rfl⟩ ⟨Nat.le_of_ble_eq_true rfl, Nat.le_of_ble_eq_true rfl⟩ rfl (Nat.le_of_ble_eq_true rfl) dL_pass_4 (fun k0 => ?_) (fun k0 => ?_)
  · rcases hk with hk | hk | hk
    · exact absurd hk k0
    · subst hk
      refine g_catch F hT hct [] (0, 9, 12, 21) [(0, 9, 15, 15)] rfl (fun z hz => ?_) (by decide) (by decide) (by decide) cl_L_21 (fun q9 => ?_)
      · cases hz
      · show GW _ _ _ _ _ _ _ _ _ _ _ _ _ _ _ _ (wC Y q u1 ++ outW Y o f) 12 _ _
        refine g_astore_n (lv' := [(3, .ref q9), (0, .ref (q 0)), (1, .int a1), (2, .ref o)]) F dL_pass_12 rfl (by decide) rfl ?_
        refine g_iconst (v := 1) F dL_pass_13 (by decide) ?_
        exact g_iret F hr rfl hlk dL_pass_14
    · subst hk
      refine g_catch F hT hct [(0, 9, 12, 21)] (0, 9, 15, 15) [] rfl (fun z hz => ?_) (by decide) (by decide) (by decide) cl_L_15 (fun q9 => ?_)
      · simp only [List.mem_cons, List.not_mem_nil, or_false] at hz
        rcases hz with rfl
        · exact ⟨2, by decide, by decide, by decide, by decide, cl_L_21⟩
      · show GW _ _ _ _ _ _ _ _ _ _ _ _ _ _ _ _ (wC Y q u1 ++ outW Y o f) 15 _ _
        refine g_astore_n (lv' := [(3, .ref q9), (0, .ref (q 0)), (1, .int a1), (2, .ref o)]) F dL_pass_15 rfl (by decide) rfl ?_
        refine g_iconst (v := 2) F dL_pass_16 (by decide) ?_
        exact g_iret F hr rfl hlk dL_pass_17
  · subst k0
    refine g_i2l (v := r.toInt64) F dL_pass_7 rfl ?_
    refine g_last F 50 rfl (by unfold vp_in; decide) dL_pass_8 (ws' := wC Y q u1 ++ outW Y o (vp_updL f 0 r.toInt64)) rfl ?_
    refine g_goto (tgt := 18) F dL_pass_9 (by decide) ?_
    refine g_iconst (v := 0) F dL_pass_18 (by decide) ?_
    exact g_iret F hr rfl hlk dL_pass_19
theorem cw_yL_leave : Cond.codeWith yL_leave cL_leave 3 (some .int) [(0, 8, 11, 15)] ∈ TBL := tb_3 175 (by decide +kernel) rfl
theorem dL_leave_0 : decode cL_leave 0 = .ok (.aload_n 1, 1) := by decide +kernel
theorem dL_leave_1 : decode cL_leave 1 = .ok (.iconst 0, 1) := by decide +kernel
theorem dL_leave_2 : decode cL_leave 2 = .ok (.aload_n 0, 1) := by decide +kernel
theorem dL_leave_3 : decode cL_leave 3 = .ok (.invokevirtual 56, 3) := by decide +kernel
theorem dL_leave_6 : decode cL_leave 6 = .ok (.i2l, 1) := by decide +kernel
theorem dL_leave_7 : decode cL_leave 7 = .ok (.lastore, 1) := by decide +kernel
theorem dL_leave_8 : decode cL_leave 8 = .ok (.goto 6, 3) := by decide +kernel
theorem dL_leave_11 : decode cL_leave 11 = .ok (.astore_n 2, 1) := by decide +kernel
theorem dL_leave_12 : decode cL_leave 12 = .ok (.iconst 1, 1) := by decide +kernel
theorem dL_leave_13 : decode cL_leave 13 = .ok (.ireturn, 1) := by decide +kernel
theorem dL_leave_14 : decode cL_leave 14 = .ok (.iconst 0, 1) := by decide +kernel
theorem dL_leave_15 : decode cL_leave 15 = .ok (.ireturn, 1) := by decide +kernel
set_option maxHeartbeats 4000000 in
set_option maxRecDepth 20000 in
theorem wL_leave {l : Launch} {D : va_G} {Y : Nat → ClassId} {q : Nat → Nat} {o : Nat} {f : Nat → Int64} {u u1 : St} {k : Nat} {r : Int32} (hX : pX6_leave u = some (k, r, u1)) (hk : k = 0 ∨ k = 3) (hl9 : l.stackTraces = false) : CMw l yL_leave cL_leave 3 [(0, 8, 11, 15)] 7 111 D Y (wC Y q u ++ outW Y o f) (wC Y q u1 ++ outW Y o (if k = 0 then vp_updL f 0 r.toInt64 else f)) [.ref (q 0), .ref o] (if k = 0 then 0 else if k = 3 then 1 else 0) := by
  refine cm_ofw (by decide) (Nat.le_of_ble_eq_true rfl) rfl (fun p e s m args below meth c A F hr hlk hT hct => ?_)
  show GW p l e { frames := 7, cells := 1, slots := 6, locals := 111 } s m args below meth c D A 3 0 0 (MQ below (QI D (wC Y q u1 ++ outW Y o (if k = 0 then vp_updL f 0 r.toInt64 else f)) (if k = 0 then 0 else if k = 3 then 1 else 0) A) args s 1 6 A) (wC Y q u ++ outW Y o f) 0 [(0, .ref (q 0)), (1, .ref o)] []
  refine g_aload_n F dL_leave_0 1 rfl rfl ?_
  refine g_iconst (v := 0) F dL_leave_1 (by decide) ?_
  refine g_aload_n F dL_leave_2 0 rfl rfl ?_
  refine g_callT false (n := 0) (q0 := 0) (As := []) (wc := wC Y q u) (w1 := wC Y q u1) (ws1 := (wC Y q u1 ++ outW Y o f)) F hT [] (outW Y o f) (kX6_leave hX hl9) rfl rfl (by unfold mOK; decide +kernel) rfl rfl cd_yX6_leave ml_L_56 im_yX6_leave se_yX6_leave in_X6 rfl rfl ⟨Nat.le_of_ble_eq_true rfl, Nat.le_of_ble_eq_true rfl⟩ ⟨Nat.le_of_ble_eq_true rfl, Nat.le_of_ble_eq_true rfl⟩ rfl (Nat.le_of_ble_eq_true rfl) dL_leave_3 (fun k0 => ?_) (fun k0 => ?_)
  · rcases hk with hk | hk
    · exact absurd hk k0
    · subst hk
      refine g_catch F hT hct [] (0, 8, 11, 15) [] rfl (fun z hz => ?_) (by decide) (by decide) (by decide) cl_L_15 (fun q9 => ?_)
      · cases hz
      · show GW _ _ _ _ _ _ _ _ _ _ _ _ _ _ _ _ (wC Y q u1 ++ outW Y o f) 11 _ _
        refine g_astore_n (lv' := [(2, .ref q9), (0, .ref (q 0)), (1, .ref o)]) F dL_leave_11 rfl (by decide) rfl ?_
        refine g_iconst (v := 1) F dL_leave_12 (by decide) ?_
        exact g_iret F hr rfl hlk dL_leave_13
  · subst k0
    refine g_i2l (v := r.toInt64) F dL_leave_6 rfl ?_
    refine g_last F 50 rfl (by unfold vp_in; decide) dL_leave_7 (ws' := wC Y q u1 ++ outW Y o (vp_updL f 0 r.toInt64)) rfl ?_
    refine g_goto (tgt := 14) F dL_leave_8 (by decide) ?_
    refine g_iconst (v := 0) F dL_leave_14 (by decide) ?_
    exact g_iret F hr rfl hlk dL_leave_15
theorem cw_yL_of : Cond.codeWith yL_of cL_of 5 (some .int) [(0, 10, 13, 13), (0, 10, 17, 21)] ∈ TBL := tb_3 192 (by decide +kernel) rfl
theorem dL_of_0 : decode cL_of 0 = .ok (.aload_n 3, 1) := by decide +kernel
theorem dL_of_1 : decode cL_of 1 = .ok (.iconst 0, 1) := by decide +kernel
theorem dL_of_2 : decode cL_of 2 = .ok (.aload_n 0, 1) := by decide +kernel
theorem dL_of_3 : decode cL_of 3 = .ok (.iload_n 1, 1) := by decide +kernel
theorem dL_of_4 : decode cL_of 4 = .ok (.iload_n 2, 1) := by decide +kernel
theorem dL_of_5 : decode cL_of 5 = .ok (.invokevirtual 60, 3) := by decide +kernel
theorem dL_of_8 : decode cL_of 8 = .ok (.i2l, 1) := by decide +kernel
theorem dL_of_9 : decode cL_of 9 = .ok (.lastore, 1) := by decide +kernel
theorem dL_of_10 : decode cL_of 10 = .ok (.goto 11, 3) := by decide +kernel
theorem dL_of_13 : decode cL_of 13 = .ok (.astore 4, 2) := by decide +kernel
theorem dL_of_15 : decode cL_of 15 = .ok (.iconst 1, 1) := by decide +kernel
theorem dL_of_16 : decode cL_of 16 = .ok (.ireturn, 1) := by decide +kernel
theorem dL_of_17 : decode cL_of 17 = .ok (.astore 4, 2) := by decide +kernel
theorem dL_of_19 : decode cL_of 19 = .ok (.iconst 2, 1) := by decide +kernel
theorem dL_of_20 : decode cL_of 20 = .ok (.ireturn, 1) := by decide +kernel
theorem dL_of_21 : decode cL_of 21 = .ok (.iconst 0, 1) := by decide +kernel
theorem dL_of_22 : decode cL_of 22 = .ok (.ireturn, 1) := by decide +kernel
set_option maxHeartbeats 4000000 in
set_option maxRecDepth 20000 in
theorem wL_of {l : Launch} {D : va_G} {Y : Nat → ClassId} {q : Nat → Nat} {o : Nat} {f : Nat → Int64} {a1 a2 : Int32} {u u1 : St} {k : Nat} {r : Int32} (hX : pX6_of a1 a2 u = some (k, r, u1)) (hk : k = 0 ∨ k = 1 ∨ k = 2) (hl9 : l.stackTraces = false) : CMw l yL_of cL_of 5 [(0, 10, 13, 13), (0, 10, 17, 21)] 7 112 D Y (wC Y q u ++ outW Y o f) (wC Y q u1 ++ outW Y o (if k = 0 then vp_updL f 0 r.toInt64 else f)) [.ref (q 0), .int a1, .int a2, .ref o] (if k = 0 then 0 else if k = 1 then 1 else if k = 2 then 2 else 0) := by
  refine cm_ofw (by decide) (Nat.le_of_ble_eq_true rfl) rfl (fun p e s m args below meth c A F hr hlk hT hct => ?_)
  show GW p l e { frames := 7, cells := 1, slots := 6, locals := 112 } s m args below meth c D A 5 0 0 (MQ below (QI D (wC Y q u1 ++ outW Y o (if k = 0 then vp_updL f 0 r.toInt64 else f)) (if k = 0 then 0 else if k = 1 then 1 else if k = 2 then 2 else 0) A) args s 1 6 A) (wC Y q u ++ outW Y o f) 0 [(0, .ref (q 0)), (1, .int a1), (2, .int a2), (3, .ref o)] []
  refine g_aload_n F dL_of_0 3 rfl rfl ?_
  refine g_iconst (v := 0) F dL_of_1 (by decide) ?_
  refine g_aload_n F dL_of_2 0 rfl rfl ?_
  refine g_iload_n F dL_of_3 1 rfl rfl ?_
  refine g_iload_n F dL_of_4 2 rfl rfl ?_
  refine g_callT false (n := 2) (q0 := 0) (As := [.int a1, .int a2]) (wc := wC Y q u) (w1 := wC Y q u1) (ws1 := (wC Y q u1 ++ outW Y o f)) F hT [] (outW Y o f) (kX6_of hX hl9) rfl rfl (by unfold mOK; decide +kernel) rfl rfl cd_yX6_of ml_L_60 im_yX6_of se_yX6_of in_X6 rfl rfl ⟨Nat.le_of_ble_eq_true rfl, Nat.le_of_ble_eq_true rfl⟩ ⟨Nat.le_of_ble_eq_true rfl, Nat.le_of_ble_eq_true rfl⟩ rfl (Nat.le_of_ble_eq_true rfl) dL_of_5 (fun k0 => ?_) (fun k0 => ?_)
  · rcases hk with hk | hk | hk
    · exact absurd hk k0
    · subst hk
      refine g_catch F hT hct [] (0, 10, 13, 13) [(0, 10, 17, 21)] rfl (fun z hz => ?_) (by decide) (by decide) (by decide) cl_L_13 (fun q9 => ?_)
      · cases hz
      · show GW _ _ _ _ _ _ _ _ _ _ _ _ _ _ _ _ (wC Y q u1 ++ outW Y o f) 13 _ _
        refine g_astore (lv' := [(4, .ref q9), (0, .ref (q 0)), (1, .int a1), (2, .int a2), (3, .ref o)]) F dL_of_13 (by decide) rfl ?_
        refine g_iconst (v := 1) F dL_of_15 (by decide) ?_
        exact g_iret F hr rfl hlk dL_of_16
    · subst hk
      refine g_catch F hT hct [(0, 10, 13, 13)] (0, 10, 17, 21) [] rfl (fun z hz => ?_) (by decide) (by decide) (by decide) cl_L_21 (fun q9 => ?_)
      · simp only [List.mem_cons, List.not_mem_nil, or_false] at hz
        rcases hz with rfl
        · exact ⟨1, by decide, by decide, by decide, by decide, cl_L_13⟩
      · show GW _ _ _ _ _ _ _ _ _ _ _ _ _ _ _ _ (wC Y q u1 ++ outW Y o f) 17 _ _
        refine g_astore (lv' := [(4, .ref q9), (0, .ref (q 0)), (1, .int a1), (2, .int a2), (3, .ref o)]) F dL_of_17 (by decide) rfl ?_
        refine g_iconst (v := 2) F dL_of_19 (by decide) ?_
        exact g_iret F hr rfl hlk dL_of_20
  · subst k0
    refine g_i2l (v := r.toInt64) F dL_of_8 rfl ?_
    refine g_last F 50 rfl (by unfold vp_in; decide) dL_of_9 (ws' := wC Y q u1 ++ outW Y o (vp_updL f 0 r.toInt64)) rfl ?_
    refine g_goto (tgt := 21) F dL_of_10 (by decide) ?_
    refine g_iconst (v := 0) F dL_of_21 (by decide) ?_
    exact g_iret F hr rfl hlk dL_of_22
theorem cw_yL_at : Cond.codeWith yL_at cL_at 4 (some .int) [(0, 9, 12, 13)] ∈ TBL := tb_3 211 (by decide +kernel) rfl
theorem dL_at_0 : decode cL_at 0 = .ok (.aload_n 2, 1) := by decide +kernel
theorem dL_at_1 : decode cL_at 1 = .ok (.iconst 0, 1) := by decide +kernel
theorem dL_at_2 : decode cL_at 2 = .ok (.aload_n 0, 1) := by decide +kernel
theorem dL_at_3 : decode cL_at 3 = .ok (.iload_n 1, 1) := by decide +kernel
theorem dL_at_4 : decode cL_at 4 = .ok (.invokevirtual 63, 3) := by decide +kernel
theorem dL_at_7 : decode cL_at 7 = .ok (.i2l, 1) := by decide +kernel
theorem dL_at_8 : decode cL_at 8 = .ok (.lastore, 1) := by decide +kernel
theorem dL_at_9 : decode cL_at 9 = .ok (.goto 6, 3) := by decide +kernel
theorem dL_at_12 : decode cL_at 12 = .ok (.astore_n 3, 1) := by decide +kernel
theorem dL_at_13 : decode cL_at 13 = .ok (.iconst 1, 1) := by decide +kernel
theorem dL_at_14 : decode cL_at 14 = .ok (.ireturn, 1) := by decide +kernel
theorem dL_at_15 : decode cL_at 15 = .ok (.iconst 0, 1) := by decide +kernel
theorem dL_at_16 : decode cL_at 16 = .ok (.ireturn, 1) := by decide +kernel
set_option maxHeartbeats 4000000 in
set_option maxRecDepth 20000 in
theorem wL_at {l : Launch} {D : va_G} {Y : Nat → ClassId} {q : Nat → Nat} {o : Nat} {f : Nat → Int64} {a1 : Int32} {u u1 : St} {k : Nat} {r : Int32} (hX : pX6_at a1 u = some (k, r, u1)) (hk : k = 0 ∨ k = 1) (hl9 : l.stackTraces = false) : CMw l yL_at cL_at 4 [(0, 9, 12, 13)] 7 111 D Y (wC Y q u ++ outW Y o f) (wC Y q u1 ++ outW Y o (if k = 0 then vp_updL f 0 r.toInt64 else f)) [.ref (q 0), .int a1, .ref o] (if k = 0 then 0 else if k = 1 then 1 else 0) := by
  refine cm_ofw (by decide) (Nat.le_of_ble_eq_true rfl) rfl (fun p e s m args below meth c A F hr hlk hT hct => ?_)
  show GW p l e { frames := 7, cells := 1, slots := 6, locals := 111 } s m args below meth c D A 4 0 0 (MQ below (QI D (wC Y q u1 ++ outW Y o (if k = 0 then vp_updL f 0 r.toInt64 else f)) (if k = 0 then 0 else if k = 1 then 1 else 0) A) args s 1 6 A) (wC Y q u ++ outW Y o f) 0 [(0, .ref (q 0)), (1, .int a1), (2, .ref o)] []
  refine g_aload_n F dL_at_0 2 rfl rfl ?_
  refine g_iconst (v := 0) F dL_at_1 (by decide) ?_
  refine g_aload_n F dL_at_2 0 rfl rfl ?_
  refine g_iload_n F dL_at_3 1 rfl rfl ?_
  refine g_callT false (n := 1) (q0 := 0) (As := [.int a1]) (wc := wC Y q u) (w1 := wC Y q u1) (ws1 := (wC Y q u1 ++ outW Y o f)) F hT [] (outW Y o f) (kX6_at hX hl9) rfl rfl (by unfold mOK; decide +kernel) rfl rfl cd_yX6_at ml_L_63 im_yX6_at se_yX6_at in_X6 rfl rfl ⟨Nat.le_of_ble_eq_true rfl, Nat.le_of_ble_eq_true rfl⟩ ⟨Nat.le_of_ble_eq_true rfl, Nat.le_of_ble_eq_true rfl⟩ rfl (Nat.le_of_ble_eq_true rfl) dL_at_4 (fun k0 => ?_) (fun k0 => ?_)
  · rcases hk with hk | hk
    · exact absurd hk k0
    · subst hk
      refine g_catch F hT hct [] (0, 9, 12, 13) [] rfl (fun z hz => ?_) (by decide) (by decide) (by decide) cl_L_13 (fun q9 => ?_)
      · cases hz
      · show GW _ _ _ _ _ _ _ _ _ _ _ _ _ _ _ _ (wC Y q u1 ++ outW Y o f) 12 _ _
        refine g_astore_n (lv' := [(3, .ref q9), (0, .ref (q 0)), (1, .int a1), (2, .ref o)]) F dL_at_12 rfl (by decide) rfl ?_
        refine g_iconst (v := 1) F dL_at_13 (by decide) ?_
        exact g_iret F hr rfl hlk dL_at_14
  · subst k0
    refine g_i2l (v := r.toInt64) F dL_at_7 rfl ?_
    refine g_last F 50 rfl (by unfold vp_in; decide) dL_at_8 (ws' := wC Y q u1 ++ outW Y o (vp_updL f 0 r.toInt64)) rfl ?_
    refine g_goto (tgt := 15) F dL_at_9 (by decide) ?_
    refine g_iconst (v := 0) F dL_at_15 (by decide) ?_
    exact g_iret F hr rfl hlk dL_at_16
theorem cw_yL_inYard : Cond.codeWith yL_inYard cL_inYard 5 (some .int) [(0, 10, 13, 13)] ∈ TBL := tb_3 218 (by decide +kernel) rfl
theorem dL_inYard_0 : decode cL_inYard 0 = .ok (.aload_n 3, 1) := by decide +kernel
theorem dL_inYard_1 : decode cL_inYard 1 = .ok (.iconst 0, 1) := by decide +kernel
theorem dL_inYard_2 : decode cL_inYard 2 = .ok (.aload_n 0, 1) := by decide +kernel
theorem dL_inYard_3 : decode cL_inYard 3 = .ok (.iload_n 1, 1) := by decide +kernel
theorem dL_inYard_4 : decode cL_inYard 4 = .ok (.iload_n 2, 1) := by decide +kernel
theorem dL_inYard_5 : decode cL_inYard 5 = .ok (.invokevirtual 66, 3) := by decide +kernel
theorem dL_inYard_8 : decode cL_inYard 8 = .ok (.i2l, 1) := by decide +kernel
theorem dL_inYard_9 : decode cL_inYard 9 = .ok (.lastore, 1) := by decide +kernel
theorem dL_inYard_10 : decode cL_inYard 10 = .ok (.goto 7, 3) := by decide +kernel
theorem dL_inYard_13 : decode cL_inYard 13 = .ok (.astore 4, 2) := by decide +kernel
theorem dL_inYard_15 : decode cL_inYard 15 = .ok (.iconst 1, 1) := by decide +kernel
theorem dL_inYard_16 : decode cL_inYard 16 = .ok (.ireturn, 1) := by decide +kernel
theorem dL_inYard_17 : decode cL_inYard 17 = .ok (.iconst 0, 1) := by decide +kernel
theorem dL_inYard_18 : decode cL_inYard 18 = .ok (.ireturn, 1) := by decide +kernel
set_option maxHeartbeats 4000000 in
set_option maxRecDepth 20000 in
theorem wL_inYard {l : Launch} {D : va_G} {Y : Nat → ClassId} {q : Nat → Nat} {o : Nat} {f : Nat → Int64} {a1 a2 : Int32} {u u1 : St} {k : Nat} {r : Int32} (hX : pX6_inYard a1 a2 u = some (k, r, u1)) (hk : k = 0 ∨ k = 1) (hl9 : l.stackTraces = false) : CMw l yL_inYard cL_inYard 5 [(0, 10, 13, 13)] 7 112 D Y (wC Y q u ++ outW Y o f) (wC Y q u1 ++ outW Y o (if k = 0 then vp_updL f 0 r.toInt64 else f)) [.ref (q 0), .int a1, .int a2, .ref o] (if k = 0 then 0 else if k = 1 then 1 else 0) := by
  refine cm_ofw (by decide) (Nat.le_of_ble_eq_true rfl) rfl (fun p e s m args below meth c A F hr hlk hT hct => ?_)
  show GW p l e { frames := 7, cells := 1, slots := 6, locals := 112 } s m args below meth c D A 5 0 0 (MQ below (QI D (wC Y q u1 ++ outW Y o (if k = 0 then vp_updL f 0 r.toInt64 else f)) (if k = 0 then 0 else if k = 1 then 1 else 0) A) args s 1 6 A) (wC Y q u ++ outW Y o f) 0 [(0, .ref (q 0)), (1, .int a1), (2, .int a2), (3, .ref o)] []
  refine g_aload_n F dL_inYard_0 3 rfl rfl ?_
  refine g_iconst (v := 0) F dL_inYard_1 (by decide) ?_
  refine g_aload_n F dL_inYard_2 0 rfl rfl ?_
  refine g_iload_n F dL_inYard_3 1 rfl rfl ?_
  refine g_iload_n F dL_inYard_4 2 rfl rfl ?_
  refine g_callT false (n := 2) (q0 := 0) (As := [.int a1, .int a2]) (wc := wC Y q u) (w1 := wC Y q u1) (ws1 := (wC Y q u1 ++ outW Y o f)) F hT [] (outW Y o f) (kX6_inYard hX hl9) rfl rfl (by unfold mOK; decide +kernel) rfl rfl cd_yX6_inYard ml_L_66 im_yX6_inYard se_yX6_inYard in_X6 rfl rfl ⟨Nat.le_of_ble_eq_true rfl, Nat.le_of_ble_eq_true rfl⟩ ⟨Nat.le_of_ble_eq_true rfl, Nat.le_of_ble_eq_true rfl⟩ rfl (Nat.le_of_ble_eq_true rfl) dL_inYard_5 (fun k0 => ?_) (fun k0 => ?_)
  · rcases hk with hk | hk
    · exact absurd hk k0
    · subst hk
      refine g_catch F hT hct [] (0, 10, 13, 13) [] rfl (fun z hz => ?_) (by decide) (by decide) (by decide) cl_L_13 (fun q9 => ?_)
      · cases hz
      · show GW _ _ _ _ _ _ _ _ _ _ _ _ _ _ _ _ (wC Y q u1 ++ outW Y o f) 13 _ _
        refine g_astore (lv' := [(4, .ref q9), (0, .ref (q 0)), (1, .int a1), (2, .int a2), (3, .ref o)]) F dL_inYard_13 (by decide) rfl ?_
        refine g_iconst (v := 1) F dL_inYard_15 (by decide) ?_
        exact g_iret F hr rfl hlk dL_inYard_16
  · subst k0
    refine g_i2l (v := r.toInt64) F dL_inYard_8 rfl ?_
    refine g_last F 50 rfl (by unfold vp_in; decide) dL_inYard_9 (ws' := wC Y q u1 ++ outW Y o (vp_updL f 0 r.toInt64)) rfl ?_
    refine g_goto (tgt := 17) F dL_inYard_10 (by decide) ?_
    refine g_iconst (v := 0) F dL_inYard_17 (by decide) ?_
    exact g_iret F hr rfl hlk dL_inYard_18
theorem cw_yL_hatch : Cond.codeWith yL_hatch cL_hatch 4 (some .int) [(0, 9, 12, 13)] ∈ TBL := tb_3 227 (by decide +kernel) rfl
theorem dL_hatch_0 : decode cL_hatch 0 = .ok (.aload_n 2, 1) := by decide +kernel
theorem dL_hatch_1 : decode cL_hatch 1 = .ok (.iconst 0, 1) := by decide +kernel
theorem dL_hatch_2 : decode cL_hatch 2 = .ok (.aload_n 0, 1) := by decide +kernel
theorem dL_hatch_3 : decode cL_hatch 3 = .ok (.iload_n 1, 1) := by decide +kernel
theorem dL_hatch_4 : decode cL_hatch 4 = .ok (.invokevirtual 69, 3) := by decide +kernel
theorem dL_hatch_7 : decode cL_hatch 7 = .ok (.i2l, 1) := by decide +kernel
theorem dL_hatch_8 : decode cL_hatch 8 = .ok (.lastore, 1) := by decide +kernel
theorem dL_hatch_9 : decode cL_hatch 9 = .ok (.goto 6, 3) := by decide +kernel
theorem dL_hatch_12 : decode cL_hatch 12 = .ok (.astore_n 3, 1) := by decide +kernel
theorem dL_hatch_13 : decode cL_hatch 13 = .ok (.iconst 1, 1) := by decide +kernel
theorem dL_hatch_14 : decode cL_hatch 14 = .ok (.ireturn, 1) := by decide +kernel
theorem dL_hatch_15 : decode cL_hatch 15 = .ok (.iconst 0, 1) := by decide +kernel
theorem dL_hatch_16 : decode cL_hatch 16 = .ok (.ireturn, 1) := by decide +kernel
set_option maxHeartbeats 4000000 in
set_option maxRecDepth 20000 in
theorem wL_hatch {l : Launch} {D : va_G} {Y : Nat → ClassId} {q : Nat → Nat} {o : Nat} {f : Nat → Int64} {a1 : Int32} {u u1 : St} {k : Nat} {r : Int32} (hX : pX6_hatch a1 u = some (k, r, u1)) (hk : k = 0 ∨ k = 1) (hl9 : l.stackTraces = false) : CMw l yL_hatch cL_hatch 4 [(0, 9, 12, 13)] 7 111 D Y (wC Y q u ++ outW Y o f) (wC Y q u1 ++ outW Y o (if k = 0 then vp_updL f 0 r.toInt64 else f)) [.ref (q 0), .int a1, .ref o] (if k = 0 then 0 else if k = 1 then 1 else 0) := by
  refine cm_ofw (by decide) (Nat.le_of_ble_eq_true rfl) rfl (fun p e s m args below meth c A F hr hlk hT hct => ?_)
  show GW p l e { frames := 7, cells := 1, slots := 6, locals := 111 } s m args below meth c D A 4 0 0 (MQ below (QI D (wC Y q u1 ++ outW Y o (if k = 0 then vp_updL f 0 r.toInt64 else f)) (if k = 0 then 0 else if k = 1 then 1 else 0) A) args s 1 6 A) (wC Y q u ++ outW Y o f) 0 [(0, .ref (q 0)), (1, .int a1), (2, .ref o)] []
  refine g_aload_n F dL_hatch_0 2 rfl rfl ?_
  refine g_iconst (v := 0) F dL_hatch_1 (by decide) ?_
  refine g_aload_n F dL_hatch_2 0 rfl rfl ?_
  refine g_iload_n F dL_hatch_3 1 rfl rfl ?_
  refine g_callT false (n := 1) (q0 := 0) (As := [.int a1]) (wc := wC Y q u) (w1 := wC Y q u1) (ws1 := (wC Y q u1 ++ outW Y o f)) F hT [] (outW Y o f) (kX6_hatch hX hl9) rfl rfl (by unfold mOK; decide +kernel) rfl rfl cd_yX6_hatch ml_L_69 im_yX6_hatch se_yX6_hatch in_X6 rfl rfl ⟨Nat.le_of_ble_eq_true rfl, Nat.le_of_ble_eq_true rfl⟩ ⟨Nat.le_of_ble_eq_true rfl, Nat.le_of_ble_eq_true rfl⟩ rfl (Nat.le_of_ble_eq_true rfl) dL_hatch_4 (fun k0 => ?_) (fun k0 => ?_)
  · rcases hk with hk | hk
    · exact absurd hk k0
    · subst hk
      refine g_catch F hT hct [] (0, 9, 12, 13) [] rfl (fun z hz => ?_) (by decide) (by decide) (by decide) cl_L_13 (fun q9 => ?_)
      · cases hz
      · show GW _ _ _ _ _ _ _ _ _ _ _ _ _ _ _ _ (wC Y q u1 ++ outW Y o f) 12 _ _
        refine g_astore_n (lv' := [(3, .ref q9), (0, .ref (q 0)), (1, .int a1), (2, .ref o)]) F dL_hatch_12 rfl (by decide) rfl ?_
        refine g_iconst (v := 1) F dL_hatch_13 (by decide) ?_
        exact g_iret F hr rfl hlk dL_hatch_14
  · subst k0
    refine g_i2l (v := r.toInt64) F dL_hatch_7 rfl ?_
    refine g_last F 50 rfl (by unfold vp_in; decide) dL_hatch_8 (ws' := wC Y q u1 ++ outW Y o (vp_updL f 0 r.toInt64)) rfl ?_
    refine g_goto (tgt := 15) F dL_hatch_9 (by decide) ?_
    refine g_iconst (v := 0) F dL_hatch_15 (by decide) ?_
    exact g_iret F hr rfl hlk dL_hatch_16
theorem cw_yL_moment : Cond.codeWith yL_moment cL_moment 4 (some .int) [(0, 9, 12, 21)] ∈ TBL := tb_3 234 (by decide +kernel) rfl
theorem dL_moment_0 : decode cL_moment 0 = .ok (.aload_n 2, 1) := by decide +kernel
theorem dL_moment_1 : decode cL_moment 1 = .ok (.iconst 0, 1) := by decide +kernel
theorem dL_moment_2 : decode cL_moment 2 = .ok (.aload_n 0, 1) := by decide +kernel
theorem dL_moment_3 : decode cL_moment 3 = .ok (.iload_n 1, 1) := by decide +kernel
theorem dL_moment_4 : decode cL_moment 4 = .ok (.invokevirtual 72, 3) := by decide +kernel
theorem dL_moment_7 : decode cL_moment 7 = .ok (.i2l, 1) := by decide +kernel
theorem dL_moment_8 : decode cL_moment 8 = .ok (.lastore, 1) := by decide +kernel
theorem dL_moment_9 : decode cL_moment 9 = .ok (.goto 6, 3) := by decide +kernel
theorem dL_moment_12 : decode cL_moment 12 = .ok (.astore_n 3, 1) := by decide +kernel
theorem dL_moment_13 : decode cL_moment 13 = .ok (.iconst 1, 1) := by decide +kernel
theorem dL_moment_14 : decode cL_moment 14 = .ok (.ireturn, 1) := by decide +kernel
theorem dL_moment_15 : decode cL_moment 15 = .ok (.iconst 0, 1) := by decide +kernel
theorem dL_moment_16 : decode cL_moment 16 = .ok (.ireturn, 1) := by decide +kernel
set_option maxHeartbeats 4000000 in
set_option maxRecDepth 20000 in
theorem wL_moment {l : Launch} {D : va_G} {Y : Nat → ClassId} {q : Nat → Nat} {o : Nat} {f : Nat → Int64} {a1 : Int32} {u u1 : St} {k : Nat} {r : Int32} (hX : pX6_moment a1 u = some (k, r, u1)) (hk : k = 0 ∨ k = 2) (hl9 : l.stackTraces = false) : CMw l yL_moment cL_moment 4 [(0, 9, 12, 21)] 7 111 D Y (wC Y q u ++ outW Y o f) (wC Y q u1 ++ outW Y o (if k = 0 then vp_updL f 0 r.toInt64 else f)) [.ref (q 0), .int a1, .ref o] (if k = 0 then 0 else if k = 2 then 1 else 0) := by
  refine cm_ofw (by decide) (Nat.le_of_ble_eq_true rfl) rfl (fun p e s m args below meth c A F hr hlk hT hct => ?_)
  show GW p l e { frames := 7, cells := 1, slots := 6, locals := 111 } s m args below meth c D A 4 0 0 (MQ below (QI D (wC Y q u1 ++ outW Y o (if k = 0 then vp_updL f 0 r.toInt64 else f)) (if k = 0 then 0 else if k = 2 then 1 else 0) A) args s 1 6 A) (wC Y q u ++ outW Y o f) 0 [(0, .ref (q 0)), (1, .int a1), (2, .ref o)] []
  refine g_aload_n F dL_moment_0 2 rfl rfl ?_
  refine g_iconst (v := 0) F dL_moment_1 (by decide) ?_
  refine g_aload_n F dL_moment_2 0 rfl rfl ?_
  refine g_iload_n F dL_moment_3 1 rfl rfl ?_
  refine g_callT false (n := 1) (q0 := 0) (As := [.int a1]) (wc := wC Y q u) (w1 := wC Y q u1) (ws1 := (wC Y q u1 ++ outW Y o f)) F hT [] (outW Y o f) (kX6_moment hX hl9) rfl rfl (by unfold mOK; decide +kernel) rfl rfl cd_yX6_moment ml_L_72 im_yX6_moment se_yX6_moment in_X6 rfl rfl ⟨Nat.le_of_ble_eq_true rfl, Nat.le_of_ble_eq_true rfl⟩ ⟨Nat.le_of_ble_eq_true rfl, Nat.le_of_ble_eq_true rfl⟩ rfl (Nat.le_of_ble_eq_true rfl) dL_moment_4 (fun k0 => ?_) (fun k0 => ?_)
  · rcases hk with hk | hk
    · exact absurd hk k0
    · subst hk
      refine g_catch F hT hct [] (0, 9, 12, 21) [] rfl (fun z hz => ?_) (by decide) (by decide) (by decide) cl_L_21 (fun q9 => ?_)
      · cases hz
      · show GW _ _ _ _ _ _ _ _ _ _ _ _ _ _ _ _ (wC Y q u1 ++ outW Y o f) 12 _ _
        refine g_astore_n (lv' := [(3, .ref q9), (0, .ref (q 0)), (1, .int a1), (2, .ref o)]) F dL_moment_12 rfl (by decide) rfl ?_
        refine g_iconst (v := 1) F dL_moment_13 (by decide) ?_
        exact g_iret F hr rfl hlk dL_moment_14
  · subst k0
    refine g_i2l (v := r.toInt64) F dL_moment_7 rfl ?_
    refine g_last F 50 rfl (by unfold vp_in; decide) dL_moment_8 (ws' := wC Y q u1 ++ outW Y o (vp_updL f 0 r.toInt64)) rfl ?_
    refine g_goto (tgt := 15) F dL_moment_9 (by decide) ?_
    refine g_iconst (v := 0) F dL_moment_15 (by decide) ?_
    exact g_iret F hr rfl hlk dL_moment_16
theorem cw_yL_momentAnew : Cond.codeWith yL_momentAnew cL_momentAnew 4 (some .int) [(0, 9, 12, 21)] ∈ TBL := tb_4 1 (by decide +kernel) rfl
theorem dL_momentAnew_0 : decode cL_momentAnew 0 = .ok (.aload_n 2, 1) := by decide +kernel
theorem dL_momentAnew_1 : decode cL_momentAnew 1 = .ok (.iconst 0, 1) := by decide +kernel
theorem dL_momentAnew_2 : decode cL_momentAnew 2 = .ok (.aload_n 0, 1) := by decide +kernel
theorem dL_momentAnew_3 : decode cL_momentAnew 3 = .ok (.iload_n 1, 1) := by decide +kernel
theorem dL_momentAnew_4 : decode cL_momentAnew 4 = .ok (.invokevirtual 75, 3) := by decide +kernel
theorem dL_momentAnew_7 : decode cL_momentAnew 7 = .ok (.i2l, 1) := by decide +kernel
theorem dL_momentAnew_8 : decode cL_momentAnew 8 = .ok (.lastore, 1) := by decide +kernel
theorem dL_momentAnew_9 : decode cL_momentAnew 9 = .ok (.goto 6, 3) := by decide +kernel
theorem dL_momentAnew_12 : decode cL_momentAnew 12 = .ok (.astore_n 3, 1) := by decide +kernel
theorem dL_momentAnew_13 : decode cL_momentAnew 13 = .ok (.iconst 1, 1) := by decide +kernel
theorem dL_momentAnew_14 : decode cL_momentAnew 14 = .ok (.ireturn, 1) := by decide +kernel
theorem dL_momentAnew_15 : decode cL_momentAnew 15 = .ok (.iconst 0, 1) := by decide +kernel
theorem dL_momentAnew_16 : decode cL_momentAnew 16 = .ok (.ireturn, 1) := by decide +kernel
set_option maxHeartbeats 4000000 in
set_option maxRecDepth 20000 in
theorem wL_momentAnew {l : Launch} {D : va_G} {Y : Nat → ClassId} {q : Nat → Nat} {o : Nat} {f : Nat → Int64} {a1 : Int32} {u u1 : St} {k : Nat} {r : Int32} (hX : pX6_momentAnew a1 u = some (k, r, u1)) (hk : k = 0 ∨ k = 2) (hl9 : l.stackTraces = false) : CMw l yL_momentAnew cL_momentAnew 4 [(0, 9, 12, 21)] 7 115 D Y (wC Y q u ++ outW Y o f) (wC Y q u1 ++ outW Y o (if k = 0 then vp_updL f 0 r.toInt64 else f)) [.ref (q 0), .int a1, .ref o] (if k = 0 then 0 else if k = 2 then 1 else 0) := by
  refine cm_ofw (by decide) (Nat.le_of_ble_eq_true rfl) rfl (fun p e s m args below meth c A F hr hlk hT hct => ?_)
  show GW p l e { frames := 7, cells := 1, slots := 6, locals := 115 } s m args below meth c D A 4 0 0 (MQ below (QI D (wC Y q u1 ++ outW Y o (if k = 0 then vp_updL f 0 r.toInt64 else f)) (if k = 0 then 0 else if k = 2 then 1 else 0) A) args s 1 6 A) (wC Y q u ++ outW Y o f) 0 [(0, .ref (q 0)), (1, .int a1), (2, .ref o)] []
  refine g_aload_n F dL_momentAnew_0 2 rfl rfl ?_
  refine g_iconst (v := 0) F dL_momentAnew_1 (by decide) ?_
  refine g_aload_n F dL_momentAnew_2 0 rfl rfl ?_
  refine g_iload_n F dL_momentAnew_3 1 rfl rfl ?_
  refine g_callT false (n := 1) (q0 := 0) (As := [.int a1]) (wc := wC Y q u) (w1 := wC Y q u1) (ws1 := (wC Y q u1 ++ outW Y o f)) F hT [] (outW Y o f) (kX6_momentAnew hX hl9) rfl rfl (by unfold mOK; decide +kernel) rfl rfl cd_yX6_momentAnew ml_L_75 im_yX6_momentAnew se_yX6_momentAnew in_X6 rfl rfl ⟨Nat.le_of_ble_eq_true rfl, Nat.le_of_ble_eq_true rfl⟩ ⟨Nat.le_of_ble_eq_true rfl, Nat.le_of_ble_eq_true rfl⟩ rfl (Nat.le_of_ble_eq_true rfl) dL_momentAnew_4 (fun k0 => ?_) (fun k0 => ?_)
  · rcases hk with hk | hk
    · exact absurd hk k0
    · subst hk
      refine g_catch F hT hct [] (0, 9, 12, 21) [] rfl (fun z hz => ?_) (by decide) (by decide) (by decide) cl_L_21 (fun q9 => ?_)
      · cases hz
      · show GW _ _ _ _ _ _ _ _ _ _ _ _ _ _ _ _ (wC Y q u1 ++ outW Y o f) 12 _ _
        refine g_astore_n (lv' := [(3, .ref q9), (0, .ref (q 0)), (1, .int a1), (2, .ref o)]) F dL_momentAnew_12 rfl (by decide) rfl ?_
        refine g_iconst (v := 1) F dL_momentAnew_13 (by decide) ?_
        exact g_iret F hr rfl hlk dL_momentAnew_14
  · subst k0
    refine g_i2l (v := r.toInt64) F dL_momentAnew_7 rfl ?_
    refine g_last F 50 rfl (by unfold vp_in; decide) dL_momentAnew_8 (ws' := wC Y q u1 ++ outW Y o (vp_updL f 0 r.toInt64)) rfl ?_
    refine g_goto (tgt := 15) F dL_momentAnew_9 (by decide) ?_
    refine g_iconst (v := 0) F dL_momentAnew_15 (by decide) ?_
    exact g_iret F hr rfl hlk dL_momentAnew_16
theorem cw_yL_dig : Cond.codeWith yL_dig cL_dig 4 (some .int) [(0, 9, 12, 13), (0, 9, 15, 15)] ∈ TBL := tb_4 8 (by decide +kernel) rfl
theorem dL_dig_0 : decode cL_dig 0 = .ok (.aload_n 2, 1) := by decide +kernel
theorem dL_dig_1 : decode cL_dig 1 = .ok (.iconst 0, 1) := by decide +kernel
theorem dL_dig_2 : decode cL_dig 2 = .ok (.aload_n 0, 1) := by decide +kernel
theorem dL_dig_3 : decode cL_dig 3 = .ok (.iload_n 1, 1) := by decide +kernel
theorem dL_dig_4 : decode cL_dig 4 = .ok (.invokevirtual 78, 3) := by decide +kernel
theorem dL_dig_7 : decode cL_dig 7 = .ok (.i2l, 1) := by decide +kernel
theorem dL_dig_8 : decode cL_dig 8 = .ok (.lastore, 1) := by decide +kernel
theorem dL_dig_9 : decode cL_dig 9 = .ok (.goto 9, 3) := by decide +kernel
theorem dL_dig_12 : decode cL_dig 12 = .ok (.astore_n 3, 1) := by decide +kernel
theorem dL_dig_13 : decode cL_dig 13 = .ok (.iconst 1, 1) := by decide +kernel
theorem dL_dig_14 : decode cL_dig 14 = .ok (.ireturn, 1) := by decide +kernel
theorem dL_dig_15 : decode cL_dig 15 = .ok (.astore_n 3, 1) := by decide +kernel
theorem dL_dig_16 : decode cL_dig 16 = .ok (.iconst 2, 1) := by decide +kernel
theorem dL_dig_17 : decode cL_dig 17 = .ok (.ireturn, 1) := by decide +kernel
theorem dL_dig_18 : decode cL_dig 18 = .ok (.iconst 0, 1) := by decide +kernel
theorem dL_dig_19 : decode cL_dig 19 = .ok (.ireturn, 1) := by decide +kernel
set_option maxHeartbeats 4000000 in
set_option maxRecDepth 20000 in
theorem wL_dig {l : Launch} {D : va_G} {Y : Nat → ClassId} {q : Nat → Nat} {o : Nat} {f : Nat → Int64} {a1 : Int32} {u u1 : St} {k : Nat} {r : Int32} (hX : pX6_dig a1 u = some (k, r, u1)) (hk : k = 0 ∨ k = 1 ∨ k = 3) (hl9 : l.stackTraces = false) : CMw l yL_dig cL_dig 4 [(0, 9, 12, 13), (0, 9, 15, 15)] 7 113 D Y (wC Y q u ++ outW Y o f) (wC Y q u1 ++ outW Y o (if k = 0 then vp_updL f 0 r.toInt64 else f)) [.ref (q 0), .int a1, .ref o] (if k = 0 then 0 else if k = 1 then 1 else if k = 3 then 2 else 0) := by
  refine cm_ofw (by decide) (Nat.le_of_ble_eq_true rfl) rfl (fun p e s m args below meth c A F hr hlk hT hct => ?_)
  show GW p l e { frames := 7, cells := 1, slots := 6, locals := 113 } s m args below meth c D A 4 0 0 (MQ below (QI D (wC Y q u1 ++ outW Y o (if k = 0 then vp_updL f 0 r.toInt64 else f)) (if k = 0 then 0 else if k = 1 then 1 else if k = 3 then 2 else 0) A) args s 1 6 A) (wC Y q u ++ outW Y o f) 0 [(0, .ref (q 0)), (1, .int a1), (2, .ref o)] []
  refine g_aload_n F dL_dig_0 2 rfl rfl ?_
  refine g_iconst (v := 0) F dL_dig_1 (by decide) ?_
  refine g_aload_n F dL_dig_2 0 rfl rfl ?_
  refine g_iload_n F dL_dig_3 1 rfl rfl ?_
  refine g_callT false (n := 1) (q0 := 0) (As := [.int a1]) (wc := wC Y q u) (w1 := wC Y q u1) (ws1 := (wC Y q u1 ++ outW Y o f)) F hT [] (outW Y o f) (kX6_dig hX hl9) rfl rfl (by unfold mOK; decide +kernel) rfl rfl cd_yX6_dig ml_L_78 im_yX6_dig se_yX6_dig in_X6 rfl rfl ⟨Nat.le_of_ble_eq_true rfl, Nat.le_of_ble_eq_true rfl⟩ ⟨Nat.le_of_ble_eq_true rfl, Nat.le_of_ble_eq_true rfl⟩ rfl (Nat.le_of_ble_eq_true rfl) dL_dig_4 (fun k0 => ?_) (fun k0 => ?_)
  · rcases hk with hk | hk | hk
    · exact absurd hk k0
    · subst hk
      refine g_catch F hT hct [] (0, 9, 12, 13) [(0, 9, 15, 15)] rfl (fun z hz => ?_) (by decide) (by decide) (by decide) cl_L_13 (fun q9 => ?_)
      · cases hz
      · show GW _ _ _ _ _ _ _ _ _ _ _ _ _ _ _ _ (wC Y q u1 ++ outW Y o f) 12 _ _
        refine g_astore_n (lv' := [(3, .ref q9), (0, .ref (q 0)), (1, .int a1), (2, .ref o)]) F dL_dig_12 rfl (by decide) rfl ?_
        refine g_iconst (v := 1) F dL_dig_13 (by decide) ?_
        exact g_iret F hr rfl hlk dL_dig_14
    · subst hk
      refine g_catch F hT hct [(0, 9, 12, 13)] (0, 9, 15, 15) [] rfl (fun z hz => ?_) (by decide) (by decide) (by decide) cl_L_15 (fun q9 => ?_)
      · simp only [List.mem_cons, List.not_mem_nil, or_false] at hz
        rcases hz with rfl
        · exact ⟨1, by decide, by decide, by decide, by decide, cl_L_13⟩
      · show GW _ _ _ _ _ _ _ _ _ _ _ _ _ _ _ _ (wC Y q u1 ++ outW Y o f) 15 _ _
        refine g_astore_n (lv' := [(3, .ref q9), (0, .ref (q 0)), (1, .int a1), (2, .ref o)]) F dL_dig_15 rfl (by decide) rfl ?_
        refine g_iconst (v := 2) F dL_dig_16 (by decide) ?_
        exact g_iret F hr rfl hlk dL_dig_17
  · subst k0
    refine g_i2l (v := r.toInt64) F dL_dig_7 rfl ?_
    refine g_last F 50 rfl (by unfold vp_in; decide) dL_dig_8 (ws' := wC Y q u1 ++ outW Y o (vp_updL f 0 r.toInt64)) rfl ?_
    refine g_goto (tgt := 18) F dL_dig_9 (by decide) ?_
    refine g_iconst (v := 0) F dL_dig_18 (by decide) ?_
    exact g_iret F hr rfl hlk dL_dig_19
theorem cw_yL_can : Cond.codeWith yL_can cL_can 5 (some .int) [(0, 17, 20, 13)] ∈ TBL := tb_4 16 (by decide +kernel) rfl
theorem dL_can_0 : decode cL_can 0 = .ok (.aload_n 3, 1) := by decide +kernel
theorem dL_can_1 : decode cL_can 1 = .ok (.iconst 0, 1) := by decide +kernel
theorem dL_can_2 : decode cL_can 2 = .ok (.aload_n 0, 1) := by decide +kernel
theorem dL_can_3 : decode cL_can 3 = .ok (.iload_n 1, 1) := by decide +kernel
theorem dL_can_4 : decode cL_can 4 = .ok (.iload_n 2, 1) := by decide +kernel
theorem dL_can_5 : decode cL_can 5 = .ok (.invokevirtual 81, 3) := by decide +kernel
theorem dL_can_8 : decode cL_can 8 = .ok (.ifCond .eq 7, 3) := by decide +kernel
theorem dL_can_11 : decode cL_can 11 = .ok (.lconst 1, 1) := by decide +kernel
theorem dL_can_12 : decode cL_can 12 = .ok (.goto 4, 3) := by decide +kernel
theorem dL_can_15 : decode cL_can 15 = .ok (.lconst 0, 1) := by decide +kernel
theorem dL_can_16 : decode cL_can 16 = .ok (.lastore, 1) := by decide +kernel
theorem dL_can_17 : decode cL_can 17 = .ok (.goto 7, 3) := by decide +kernel
theorem dL_can_20 : decode cL_can 20 = .ok (.astore 4, 2) := by decide +kernel
theorem dL_can_22 : decode cL_can 22 = .ok (.iconst 1, 1) := by decide +kernel
theorem dL_can_23 : decode cL_can 23 = .ok (.ireturn, 1) := by decide +kernel
theorem dL_can_24 : decode cL_can 24 = .ok (.iconst 0, 1) := by decide +kernel
theorem dL_can_25 : decode cL_can 25 = .ok (.ireturn, 1) := by decide +kernel
set_option maxHeartbeats 4000000 in
set_option maxRecDepth 20000 in
theorem wL_can {l : Launch} {D : va_G} {Y : Nat → ClassId} {q : Nat → Nat} {o : Nat} {f : Nat → Int64} {a1 a2 : Int32} {u u1 : St} {k : Nat} {r : Int32} (hX : pX6_can a1 a2 u = some (k, r, u1)) (hk : k = 0 ∨ k = 1) (hl9 : l.stackTraces = false) : CMw l yL_can cL_can 5 [(0, 17, 20, 13)] 7 130 D Y (wC Y q u ++ outW Y o f) (wC Y q u1 ++ outW Y o (if k = 0 then vp_updL f 0 (if r = 0 then (0 : Int64) else 1) else f)) [.ref (q 0), .int a1, .int a2, .ref o] (if k = 0 then 0 else if k = 1 then 1 else 0) := by
  refine cm_ofw (by decide) (Nat.le_of_ble_eq_true rfl) rfl (fun p e s m args below meth c A F hr hlk hT hct => ?_)
  show GW p l e { frames := 7, cells := 1, slots := 6, locals := 130 } s m args below meth c D A 5 0 0 (MQ below (QI D (wC Y q u1 ++ outW Y o (if k = 0 then vp_updL f 0 (if r = 0 then (0 : Int64) else 1) else f)) (if k = 0 then 0 else if k = 1 then 1 else 0) A) args s 1 6 A) (wC Y q u ++ outW Y o f) 0 [(0, .ref (q 0)), (1, .int a1), (2, .int a2), (3, .ref o)] []
  refine g_aload_n F dL_can_0 3 rfl rfl ?_
  refine g_iconst (v := 0) F dL_can_1 (by decide) ?_
  refine g_aload_n F dL_can_2 0 rfl rfl ?_
  refine g_iload_n F dL_can_3 1 rfl rfl ?_
  refine g_iload_n F dL_can_4 2 rfl rfl ?_
  refine g_callT false (n := 2) (q0 := 0) (As := [.int a1, .int a2]) (wc := wC Y q u) (w1 := wC Y q u1) (ws1 := (wC Y q u1 ++ outW Y o f)) F hT [] (outW Y o f) (kX6_can hX hl9) rfl rfl (by unfold mOK; decide +kernel) rfl rfl cd_yX6_can ml_L_81 im_yX6_can se_yX6_can in_X6 rfl rfl ⟨Nat.le_of_ble_eq_true rfl, Nat.le_of_ble_eq_true rfl⟩ ⟨Nat.le_of_ble_eq_true rfl, Nat.le_of_ble_eq_true rfl⟩ rfl (Nat.le_of_ble_eq_true rfl) dL_can_5 (fun k0 => ?_) (fun k0 => ?_)
  · rcases hk with hk | hk
    · exact absurd hk k0
    · subst hk
      refine g_catch F hT hct [] (0, 17, 20, 13) [] rfl (fun z hz => ?_) (by decide) (by decide) (by decide) cl_L_13 (fun q9 => ?_)
      · cases hz
      · show GW _ _ _ _ _ _ _ _ _ _ _ _ _ _ _ _ (wC Y q u1 ++ outW Y o f) 20 _ _
        refine g_astore (lv' := [(4, .ref q9), (0, .ref (q 0)), (1, .int a1), (2, .int a2), (3, .ref o)]) F dL_can_20 (by decide) rfl ?_
        refine g_iconst (v := 1) F dL_can_22 (by decide) ?_
        exact g_iret F hr rfl hlk dL_can_23
  · subst k0
    refine g_if_eq (tgt := 15) F dL_can_8 (by decide) (fun c1 => ?_) (fun c1 => ?_)
    · rw [if_pos c1]
      refine g_lconst (v := 0) F dL_can_15 rfl ?_
      refine g_last F 50 rfl (by unfold vp_in; decide) dL_can_16 (ws' := wC Y q u1 ++ outW Y o (vp_updL f 0 0)) rfl ?_
      refine g_goto (tgt := 24) F dL_can_17 (by decide) ?_
      refine g_iconst (v := 0) F dL_can_24 (by decide) ?_
      exact g_iret F hr rfl hlk dL_can_25
    · rw [if_neg c1]
      refine g_lconst (v := 1) F dL_can_11 rfl ?_
      refine g_goto (tgt := 16) F dL_can_12 (by decide) ?_
      refine g_last F 50 rfl (by unfold vp_in; decide) dL_can_16 (ws' := wC Y q u1 ++ outW Y o (vp_updL f 0 1)) rfl ?_
      refine g_goto (tgt := 24) F dL_can_17 (by decide) ?_
      refine g_iconst (v := 0) F dL_can_24 (by decide) ?_
      exact g_iret F hr rfl hlk dL_can_25
theorem cw_yL_may : Cond.codeWith yL_may cL_may 5 (some .int) [(0, 17, 20, 13)] ∈ TBL := tb_4 23 (by decide +kernel) rfl
theorem dL_may_0 : decode cL_may 0 = .ok (.aload_n 3, 1) := by decide +kernel
theorem dL_may_1 : decode cL_may 1 = .ok (.iconst 0, 1) := by decide +kernel
theorem dL_may_2 : decode cL_may 2 = .ok (.aload_n 0, 1) := by decide +kernel
theorem dL_may_3 : decode cL_may 3 = .ok (.iload_n 1, 1) := by decide +kernel
theorem dL_may_4 : decode cL_may 4 = .ok (.iload_n 2, 1) := by decide +kernel
theorem dL_may_5 : decode cL_may 5 = .ok (.invokevirtual 84, 3) := by decide +kernel
theorem dL_may_8 : decode cL_may 8 = .ok (.ifCond .eq 7, 3) := by decide +kernel
theorem dL_may_11 : decode cL_may 11 = .ok (.lconst 1, 1) := by decide +kernel
theorem dL_may_12 : decode cL_may 12 = .ok (.goto 4, 3) := by decide +kernel
theorem dL_may_15 : decode cL_may 15 = .ok (.lconst 0, 1) := by decide +kernel
theorem dL_may_16 : decode cL_may 16 = .ok (.lastore, 1) := by decide +kernel
theorem dL_may_17 : decode cL_may 17 = .ok (.goto 7, 3) := by decide +kernel
theorem dL_may_20 : decode cL_may 20 = .ok (.astore 4, 2) := by decide +kernel
theorem dL_may_22 : decode cL_may 22 = .ok (.iconst 1, 1) := by decide +kernel
theorem dL_may_23 : decode cL_may 23 = .ok (.ireturn, 1) := by decide +kernel
theorem dL_may_24 : decode cL_may 24 = .ok (.iconst 0, 1) := by decide +kernel
theorem dL_may_25 : decode cL_may 25 = .ok (.ireturn, 1) := by decide +kernel
set_option maxHeartbeats 4000000 in
set_option maxRecDepth 20000 in
theorem wL_may {l : Launch} {D : va_G} {Y : Nat → ClassId} {q : Nat → Nat} {o : Nat} {f : Nat → Int64} {a1 a2 : Int32} {u u1 : St} {k : Nat} {r : Int32} (hX : pX6_may a1 a2 u = some (k, r, u1)) (hk : k = 0 ∨ k = 1) (hl9 : l.stackTraces = false) : CMw l yL_may cL_may 5 [(0, 17, 20, 13)] 7 112 D Y (wC Y q u ++ outW Y o f) (wC Y q u1 ++ outW Y o (if k = 0 then vp_updL f 0 (if r = 0 then (0 : Int64) else 1) else f)) [.ref (q 0), .int a1, .int a2, .ref o] (if k = 0 then 0 else if k = 1 then 1 else 0) := by
  refine cm_ofw (by decide) (Nat.le_of_ble_eq_true rfl) rfl (fun p e s m args below meth c A F hr hlk hT hct => ?_)
  show GW p l e { frames := 7, cells := 1, slots := 6, locals := 112 } s m args below meth c D A 5 0 0 (MQ below (QI D (wC Y q u1 ++ outW Y o (if k = 0 then vp_updL f 0 (if r = 0 then (0 : Int64) else 1) else f)) (if k = 0 then 0 else if k = 1 then 1 else 0) A) args s 1 6 A) (wC Y q u ++ outW Y o f) 0 [(0, .ref (q 0)), (1, .int a1), (2, .int a2), (3, .ref o)] []
  refine g_aload_n F dL_may_0 3 rfl rfl ?_
  refine g_iconst (v := 0) F dL_may_1 (by decide) ?_
  refine g_aload_n F dL_may_2 0 rfl rfl ?_
  refine g_iload_n F dL_may_3 1 rfl rfl ?_
  refine g_iload_n F dL_may_4 2 rfl rfl ?_
  refine g_callT false (n := 2) (q0 := 0) (As := [.int a1, .int a2]) (wc := wC Y q u) (w1 := wC Y q u1) (ws1 := (wC Y q u1 ++ outW Y o f)) F hT [] (outW Y o f) (kX6_may hX hl9) rfl rfl (by unfold mOK; decide +kernel) rfl rfl cd_yX6_may ml_L_84 im_yX6_may se_yX6_may in_X6 rfl rfl ⟨Nat.le_of_ble_eq_true rfl, Nat.le_of_ble_eq_true rfl⟩ ⟨Nat.le_of_ble_eq_true rfl, Nat.le_of_ble_eq_true rfl⟩ rfl (Nat.le_of_ble_eq_true rfl) dL_may_5 (fun k0 => ?_) (fun k0 => ?_)
  · rcases hk with hk | hk
    · exact absurd hk k0
    · subst hk
      refine g_catch F hT hct [] (0, 17, 20, 13) [] rfl (fun z hz => ?_) (by decide) (by decide) (by decide) cl_L_13 (fun q9 => ?_)
      · cases hz
      · show GW _ _ _ _ _ _ _ _ _ _ _ _ _ _ _ _ (wC Y q u1 ++ outW Y o f) 20 _ _
        refine g_astore (lv' := [(4, .ref q9), (0, .ref (q 0)), (1, .int a1), (2, .int a2), (3, .ref o)]) F dL_may_20 (by decide) rfl ?_
        refine g_iconst (v := 1) F dL_may_22 (by decide) ?_
        exact g_iret F hr rfl hlk dL_may_23
  · subst k0
    refine g_if_eq (tgt := 15) F dL_may_8 (by decide) (fun c1 => ?_) (fun c1 => ?_)
    · rw [if_pos c1]
      refine g_lconst (v := 0) F dL_may_15 rfl ?_
      refine g_last F 50 rfl (by unfold vp_in; decide) dL_may_16 (ws' := wC Y q u1 ++ outW Y o (vp_updL f 0 0)) rfl ?_
      refine g_goto (tgt := 24) F dL_may_17 (by decide) ?_
      refine g_iconst (v := 0) F dL_may_24 (by decide) ?_
      exact g_iret F hr rfl hlk dL_may_25
    · rw [if_neg c1]
      refine g_lconst (v := 1) F dL_may_11 rfl ?_
      refine g_goto (tgt := 16) F dL_may_12 (by decide) ?_
      refine g_last F 50 rfl (by unfold vp_in; decide) dL_may_16 (ws' := wC Y q u1 ++ outW Y o (vp_updL f 0 1)) rfl ?_
      refine g_goto (tgt := 24) F dL_may_17 (by decide) ?_
      refine g_iconst (v := 0) F dL_may_24 (by decide) ?_
      exact g_iret F hr rfl hlk dL_may_25
