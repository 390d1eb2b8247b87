/-! THE CONSTRUCTORS (by program: wip/whole/gen/geninit.py) -/
theorem g_permK {p : Program} {l : Launch} {e : Env} {R : Room} {s : State} {m : MethodId} {args : Array Value} {below : List Frame} {meth : Method} {c : Code} {D : va_G} {A : Nat → Prop} {nL : Nat} {cells slots : Nat} {Q : State → Prop} {ws ws' : va_W} {pc : Nat} {lv : List (Nat × Value)} {st : List Value} (ks : List Nat) (hs : ks.map (fun i => ws[i]?) = ws'.map some) (hn : va_nd ks = true) (k : GW p l e R s m args below meth c D A nL cells slots Q ws' pc lv st) : GW p l e R s m args below meth c D A nL cells slots Q ws pc lv st := fun H locs ls hP hD hS hl => k H locs ls (hP.sub ks (by have h := congrArg (List.filterMap id) hs; simpa [List.filterMap_map] using h)) (hD.sub ks hn hs) hS hl
theorem dX3_init_0 : decode cX3_init 0 = .ok (.aload_n 0, 1) := by decide +kernel
theorem dX3_init_1 : decode cX3_init 1 = .ok (.invokespecial 3, 3) := by decide +kernel
theorem dX3_init_4 : decode cX3_init 4 = .ok (.aload_n 0, 1) := by decide +kernel
theorem dX3_init_5 : decode cX3_init 5 = .ok (.iload_n 1, 1) := by decide +kernel
theorem dX3_init_6 : decode cX3_init 6 = .ok (.ifCond .ge 7, 3) := by decide +kernel
theorem dX3_init_9 : decode cX3_init 9 = .ok (.iconst 0, 1) := by decide +kernel
theorem dX3_init_10 : decode cX3_init 10 = .ok (.goto 4, 3) := by decide +kernel
theorem dX3_init_13 : decode cX3_init 13 = .ok (.iload_n 1, 1) := by decide +kernel
theorem dX3_init_14 : decode cX3_init 14 = .ok (.newarray .int, 2) := by decide +kernel
theorem dX3_init_16 : decode cX3_init 16 = .ok (.putfield 9, 3) := by decide +kernel
theorem dX3_init_19 : decode cX3_init 19 = .ok (.iconst 0, 1) := by decide +kernel
theorem dX3_init_20 : decode cX3_init 20 = .ok (.istore_n 3, 1) := by decide +kernel
theorem dX3_init_21 : decode cX3_init 21 = .ok (.iload_n 3, 1) := by decide +kernel
theorem dX3_init_22 : decode cX3_init 22 = .ok (.aload_n 0, 1) := by decide +kernel
theorem dX3_init_23 : decode cX3_init 23 = .ok (.getfield 9, 3) := by decide +kernel
theorem dX3_init_26 : decode cX3_init 26 = .ok (.arraylength, 1) := by decide +kernel
theorem dX3_init_27 : decode cX3_init 27 = .ok (.if_icmp .ge 16, 3) := by decide +kernel
theorem dX3_init_30 : decode cX3_init 30 = .ok (.aload_n 0, 1) := by decide +kernel
theorem dX3_init_31 : decode cX3_init 31 = .ok (.getfield 9, 3) := by decide +kernel
theorem dX3_init_34 : decode cX3_init 34 = .ok (.iload_n 3, 1) := by decide +kernel
theorem dX3_init_35 : decode cX3_init 35 = .ok (.iload_n 2, 1) := by decide +kernel
theorem dX3_init_36 : decode cX3_init 36 = .ok (.iastore, 1) := by decide +kernel
theorem dX3_init_37 : decode cX3_init 37 = .ok (.iinc 3 1, 3) := by decide +kernel
theorem dX3_init_40 : decode cX3_init 40 = .ok (.goto (-19), 3) := by decide +kernel
theorem dX3_init_43 : decode cX3_init 43 = .ok (.return_, 1) := by decide +kernel
set_option maxRecDepth 20000 in
theorem kX3_init {l : Launch} {D : va_G} {Y : Nat → ClassId} {a n : Nat} {x : Int32} (hn : n < 2 ^ 27) : CN l yX3_init cX3_init 4 1 20 1 n D Y [(a, .inr (3, [.null]))] [.ref a, .int (nI n), .int x] (fun w1 => ∃ b, w1 = wR Y a b n (rfill n (fun _ => 0) x)) := by
  have hn31 : n < 2 ^ 31 := by omega
  refine cm_ofn (by decide) (Nat.le_of_ble_eq_true rfl) rfl (fun p e s m args below meth c A F hr hlk hin => ?_)
  show GW p l e { frames := 1, cells := 1, slots := n, locals := 20 } s m args below meth c D A 4 0 0 (QN below args s D A 1 n (fun w1 => ∃ b, w1 = wR Y a b n (rfill n (fun _ => 0) x))) [(a, .inr (3, [.null]))] 0 [(0, .ref a), (1, .int (nI n)), (2, .int x)] []
  refine g_aload_n F dX3_init_0 0 rfl rfl ?_
  refine g_objInit F ml_X3_3 dX3_init_1 ⟨Nat.le_of_ble_eq_true rfl, Nat.le_of_ble_eq_true rfl⟩ ?_
  refine g_aload_n F dX3_init_4 0 rfl rfl ?_
  refine g_iload_n F dX3_init_5 1 rfl rfl ?_
  refine g_if_ge (tgt := 13) F dX3_init_6 (by decide) (fun _ => ?_) (fun c1 => ?_)
  · refine g_iload_n F dX3_init_13 1 rfl rfl ?_
    refine g_newa (atype := .int) (ty := .int) F 0 rfl rfl rfl (fun C h => by cases h) ac_int (nI_pos hn31) (nI_clamp hn31) (by show n * 4 ≤ 536870912; omega) ⟨Nat.le_of_ble_eq_true rfl, by show 0 + n ≤ n; omega⟩ dX3_init_14 (fun b => ?_)
    refine g_putF F lay_X3 tyX3 tyX3_ok nmX3 0 rfl rfl 0 (by decide) fl_X3_9 rfl rfl hin rfl rfl rfl rfl (Nat.le_of_ble_eq_true rfl) dX3_init_16 (ws' := wR Y a b n (fun _ => 0)) rfl ?_
    refine g_widen (k := 1) (n := n) (Nat.le_of_ble_eq_true rfl) (by omega) ?_
    have b21 : ∀ (k j : Nat) (g : Nat → Int32), j ≤ n → n ≤ j + k → (∀ i, g i = if i < j then (if i < n then x else 0) else 0) → GW p l e { frames := 1, cells := 1, slots := n, locals := 20 } s m args below meth c D A 4 1 n (QN below args s D A 1 n (fun w1 => ∃ b, w1 = wR Y a b n (rfill n (fun _ => 0) x))) (wR Y a b n g) 21 [(3, .int (nI j)), (0, .ref a), (1, .int (nI n)), (2, .int x)] [] := by
      have hend : ∀ (j : Nat) (g : Nat → Int32), n ≤ j → (∀ i, g i = if i < j then (if i < n then x else 0) else 0) → g = rfill n (fun _ => 0) x := by
        intro j g hj hg
        funext i
        rw [hg i]
        unfold rfill
        by_cases h1 : i < j
        · rw [if_pos h1]
        · rw [if_neg h1, if_neg (by omega)]
      intro k
      induction k with
      | zero =>
        intro j g hj hk hg
        refine g_iload_n F dX3_init_21 0 rfl rfl ?_
        refine g_aload_n F dX3_init_22 1 rfl rfl ?_
        refine G_X3_9 F dX3_init_23 ?_
        refine g_alen F 1 rfl (v := nI n) rfl dX3_init_26 ?_
        refine g_icmp_ge (tgt := 43) F dX3_init_27 (by decide) (fun c2 => ?_) (fun c2 => ?_)
        · rw [hend j g (by omega) hg]
          exact g_nret F hr hlk dX3_init_43 ⟨b, rfl⟩
        · exact absurd (nI_le (by omega) (by omega)) c2
      | succ k ih =>
        intro j g hj hk hg
        refine g_iload_n F dX3_init_21 0 rfl rfl ?_
        refine g_aload_n F dX3_init_22 1 rfl rfl ?_
        refine G_X3_9 F dX3_init_23 ?_
        refine g_alen F 1 rfl (v := nI n) rfl dX3_init_26 ?_
        refine g_icmp_ge (tgt := 43) F dX3_init_27 (by decide) (fun c2 => ?_) (fun c2 => ?_)
        · have hj2 : n ≤ j := by
            rcases Nat.lt_or_ge j n with h | h
            · exact absurd c2 (nI_ge h hn31)
            · exact h
          rw [hend j g hj2 hg]
          exact g_nret F hr hlk dX3_init_43 ⟨b, rfl⟩
        · have hj2 : j < n := by
            rcases Nat.lt_or_ge j n with h | h
            · exact h
            · exact absurd (nI_le h (by omega)) c2
          refine g_aload_n F dX3_init_30 1 rfl rfl ?_
          refine G_X3_9 F dX3_init_31 ?_
          refine g_iload_n F dX3_init_34 0 rfl rfl ?_
          refine g_iload_n F dX3_init_35 3 rfl rfl ?_
          refine g_iast F 1 rfl (vp_in_nI hj2 hn31) dX3_init_36 (ws' := wR Y a b n (upd g (nI j).toNatClampNeg x)) rfl ?_
          refine g_iinc (v := nI (j + 1)) (lv' := [(3, .int (nI (j + 1))), (0, .ref a), (1, .int (nI n)), (2, .int x)]) F dX3_init_37 0 rfl (nI_1 j) (by decide) rfl ?_
          refine g_goto (tgt := 21) F dX3_init_40 (by decide) ?_
          refine ih (j + 1) _ hj2 (by omega) (fun i => ?_)
          rw [nI_clamp (by omega)]
          by_cases hi : i = j
          · subst hi
            rw [pk_us, if_pos (by omega), if_pos hj2]
          · rw [pk_un hi, hg i]
            by_cases h1 : i < j
            · rw [if_pos h1, if_pos (show i < j + 1 by omega)]
            · rw [if_neg h1, if_neg (by omega)]
    refine g_iconst (v := nI 0) F dX3_init_19 (by decide) ?_
    refine g_istore_n (lv' := [(3, .int (nI 0)), (0, .ref a), (1, .int (nI n)), (2, .int x)]) F dX3_init_20 rfl (by decide) rfl ?_
    exact b21 n 0 (fun _ => 0) (Nat.zero_le _) (by omega) (fun i => by rw [if_neg (by omega)])
  · exact absurd (nI_pos' hn31) c1
theorem dX0_init_0 : decode cX0_init 0 = .ok (.aload_n 0, 1) := by decide +kernel
theorem dX0_init_1 : decode cX0_init 1 = .ok (.invokespecial 3, 3) := by decide +kernel
theorem dX0_init_4 : decode cX0_init 4 = .ok (.aload_n 0, 1) := by decide +kernel
theorem dX0_init_5 : decode cX0_init 5 = .ok (.new 9, 3) := by decide +kernel
theorem dX0_init_8 : decode cX0_init 8 = .ok (.dup, 1) := by decide +kernel
theorem dX0_init_9 : decode cX0_init 9 = .ok (.bipush 60, 2) := by decide +kernel
theorem dX0_init_11 : decode cX0_init 11 = .ok (.iconst 0, 1) := by decide +kernel
theorem dX0_init_12 : decode cX0_init 12 = .ok (.invokespecial 11, 3) := by decide +kernel
theorem dX0_init_15 : decode cX0_init 15 = .ok (.putfield 14, 3) := by decide +kernel
theorem dX0_init_18 : decode cX0_init 18 = .ok (.aload_n 0, 1) := by decide +kernel
theorem dX0_init_19 : decode cX0_init 19 = .ok (.new 9, 3) := by decide +kernel
theorem dX0_init_22 : decode cX0_init 22 = .ok (.dup, 1) := by decide +kernel
theorem dX0_init_23 : decode cX0_init 23 = .ok (.bipush 60, 2) := by decide +kernel
theorem dX0_init_25 : decode cX0_init 25 = .ok (.iconst 0, 1) := by decide +kernel
theorem dX0_init_26 : decode cX0_init 26 = .ok (.invokespecial 11, 3) := by decide +kernel
theorem dX0_init_29 : decode cX0_init 29 = .ok (.putfield 20, 3) := by decide +kernel
theorem dX0_init_32 : decode cX0_init 32 = .ok (.aload_n 0, 1) := by decide +kernel
theorem dX0_init_33 : decode cX0_init 33 = .ok (.new 9, 3) := by decide +kernel
theorem dX0_init_36 : decode cX0_init 36 = .ok (.dup, 1) := by decide +kernel
theorem dX0_init_37 : decode cX0_init 37 = .ok (.bipush 60, 2) := by decide +kernel
theorem dX0_init_39 : decode cX0_init 39 = .ok (.iconst 0, 1) := by decide +kernel
theorem dX0_init_40 : decode cX0_init 40 = .ok (.invokespecial 11, 3) := by decide +kernel
theorem dX0_init_43 : decode cX0_init 43 = .ok (.putfield 23, 3) := by decide +kernel
theorem dX0_init_46 : decode cX0_init 46 = .ok (.aload_n 0, 1) := by decide +kernel
theorem dX0_init_47 : decode cX0_init 47 = .ok (.new 9, 3) := by decide +kernel
theorem dX0_init_50 : decode cX0_init 50 = .ok (.dup, 1) := by decide +kernel
theorem dX0_init_51 : decode cX0_init 51 = .ok (.bipush 60, 2) := by decide +kernel
theorem dX0_init_53 : decode cX0_init 53 = .ok (.iconst 0, 1) := by decide +kernel
theorem dX0_init_54 : decode cX0_init 54 = .ok (.invokespecial 11, 3) := by decide +kernel
theorem dX0_init_57 : decode cX0_init 57 = .ok (.putfield 26, 3) := by decide +kernel
theorem dX0_init_60 : decode cX0_init 60 = .ok (.aload_n 0, 1) := by decide +kernel
theorem dX0_init_61 : decode cX0_init 61 = .ok (.new 9, 3) := by decide +kernel
theorem dX0_init_64 : decode cX0_init 64 = .ok (.dup, 1) := by decide +kernel
theorem dX0_init_65 : decode cX0_init 65 = .ok (.bipush 60, 2) := by decide +kernel
theorem dX0_init_67 : decode cX0_init 67 = .ok (.iconst 0, 1) := by decide +kernel
theorem dX0_init_68 : decode cX0_init 68 = .ok (.invokespecial 11, 3) := by decide +kernel
theorem dX0_init_71 : decode cX0_init 71 = .ok (.putfield 29, 3) := by decide +kernel
theorem dX0_init_74 : decode cX0_init 74 = .ok (.aload_n 0, 1) := by decide +kernel
theorem dX0_init_75 : decode cX0_init 75 = .ok (.new 9, 3) := by decide +kernel
theorem dX0_init_78 : decode cX0_init 78 = .ok (.dup, 1) := by decide +kernel
theorem dX0_init_79 : decode cX0_init 79 = .ok (.bipush 60, 2) := by decide +kernel
theorem dX0_init_81 : decode cX0_init 81 = .ok (.iconst 2, 1) := by decide +kernel
theorem dX0_init_82 : decode cX0_init 82 = .ok (.invokespecial 11, 3) := by decide +kernel
theorem dX0_init_85 : decode cX0_init 85 = .ok (.putfield 32, 3) := by decide +kernel
theorem dX0_init_88 : decode cX0_init 88 = .ok (.aload_n 0, 1) := by decide +kernel
theorem dX0_init_89 : decode cX0_init 89 = .ok (.new 9, 3) := by decide +kernel
theorem dX0_init_92 : decode cX0_init 92 = .ok (.dup, 1) := by decide +kernel
theorem dX0_init_93 : decode cX0_init 93 = .ok (.bipush 60, 2) := by decide +kernel
theorem dX0_init_95 : decode cX0_init 95 = .ok (.iconst (-1), 1) := by decide +kernel
theorem dX0_init_96 : decode cX0_init 96 = .ok (.invokespecial 11, 3) := by decide +kernel
theorem dX0_init_99 : decode cX0_init 99 = .ok (.putfield 35, 3) := by decide +kernel
theorem dX0_init_102 : decode cX0_init 102 = .ok (.return_, 1) := by decide +kernel
def iX0 (Y : Nat → ClassId) (h0 : Nat) (t : Nat → Nat) : va_W := [(h0, .inr (0, [.ref (t 0), .ref (t 2), .ref (t 4), .ref (t 6), .ref (t 8), .ref (t 10), .ref (t 12), .int 0])), (t 0, .inr (3, [.ref (t 1)])), (t 1, .inl (Y 0, 60, .inl (rfill 60 (fun _ => 0) 0))), (t 2, .inr (3, [.ref (t 3)])), (t 3, .inl (Y 0, 60, .inl (rfill 60 (fun _ => 0) 0))), (t 4, .inr (3, [.ref (t 5)])), (t 5, .inl (Y 0, 60, .inl (rfill 60 (fun _ => 0) 0))), (t 6, .inr (3, [.ref (t 7)])), (t 7, .inl (Y 0, 60, .inl (rfill 60 (fun _ => 0) 0))), (t 8, .inr (3, [.ref (t 9)])), (t 9, .inl (Y 0, 60, .inl (rfill 60 (fun _ => 0) 0))), (t 10, .inr (3, [.ref (t 11)])), (t 11, .inl (Y 0, 60, .inl (rfill 60 (fun _ => 0) 2))), (t 12, .inr (3, [.ref (t 13)])), (t 13, .inl (Y 0, 60, .inl (rfill 60 (fun _ => 0) (-1))))]
set_option maxHeartbeats 8000000 in
set_option maxRecDepth 40000 in
theorem kX0_init {l : Launch} {D : va_G} {Y : Nat → ClassId} {h0 : Nat} : CN l yX0_init cX0_init 1 2 43 14 427 D Y [(h0, .inr (0, [.null, .null, .null, .null, .null, .null, .null, .int 0]))] [.ref h0] (fun w1 => ∃ t, w1 = iX0 Y h0 t) := by
  refine cm_ofn (by decide) (Nat.le_of_ble_eq_true rfl) rfl (fun p e s m args below meth c A F hr hlk hin => ?_)
  show GW p l e { frames := 2, cells := 14, slots := 427, locals := 43 } s m args below meth c D A 1 0 0 (QN below args s D A 14 427 (fun w1 => ∃ t, w1 = iX0 Y h0 t)) [(h0, .inr (0, [.null, .null, .null, .null, .null, .null, .null, .int 0]))] 0 [(0, .ref h0)] []
  refine g_aload_n F dX0_init_0 0 rfl rfl ?_
  refine g_objInit F ml_X0_3 dX0_init_1 ⟨Nat.le_of_ble_eq_true rfl, Nat.le_of_ble_eq_true rfl⟩ ?_
  refine g_aload_n F dX0_init_4 0 rfl rfl ?_
  refine g_new (ci := 3) F lay_X3 tyX3 tyX3_ok cl_X0_9 it_X3 in_X3 rfl [.null] (by decide +kernel) ⟨Nat.le_of_ble_eq_true rfl, Nat.le_of_ble_eq_true rfl⟩ dX0_init_5 (fun n1 => ?_)
  refine g_dup F dX0_init_8 rfl ?_
  refine g_bipush (v := 60) F dX0_init_9 (by decide) ?_
  refine g_iconst (v := 0) F dX0_init_11 (by decide) ?_
  refine g_callI (n := 2) (As := [.int 60, .int 0]) F _ [] (kX3_init (a := n1) (n := 60) (x := 0) (by decide)) (List.append_nil _).symm (by unfold mOK; decide +kernel) rfl rfl cd_yX3_init ml_X0_11 im_yX3_init in_X3 ⟨Nat.le_of_ble_eq_true rfl, Nat.le_of_ble_eq_true rfl⟩ ⟨Nat.le_of_ble_eq_true rfl, Nat.le_of_ble_eq_true rfl⟩ rfl (Nat.le_of_ble_eq_true rfl) dX0_init_12 ?_
  rintro _ ⟨n1b, rfl⟩
  refine g_putF F lay_X0 tyX0 tyX0_ok nmX0 0 rfl rfl 0 (by decide) fl_X0_14 rfl rfl hin rfl (ty := tyX0 0) rfl rfl rfl (Nat.le_of_ble_eq_true rfl) dX0_init_15 (ws' := [(h0, .inr (0, [.ref n1, .null, .null, .null, .null, .null, .null, .int 0])), (n1, .inr (3, [.ref n1b])), (n1b, .inl (Y 0, 60, .inl (rfill 60 (fun _ => 0) 0)))]) rfl ?_
  refine g_aload_n F dX0_init_18 0 rfl rfl ?_
  refine g_new (ci := 3) F lay_X3 tyX3 tyX3_ok cl_X0_9 it_X3 in_X3 rfl [.null] (by decide +kernel) ⟨Nat.le_of_ble_eq_true rfl, Nat.le_of_ble_eq_true rfl⟩ dX0_init_19 (fun n2 => ?_)
  refine g_dup F dX0_init_22 rfl ?_
  refine g_bipush (v := 60) F dX0_init_23 (by decide) ?_
  refine g_iconst (v := 0) F dX0_init_25 (by decide) ?_
  refine g_callI (n := 2) (As := [.int 60, .int 0]) F _ [] (kX3_init (a := n2) (n := 60) (x := 0) (by decide)) (List.append_nil _).symm (by unfold mOK; decide +kernel) rfl rfl cd_yX3_init ml_X0_11 im_yX3_init in_X3 ⟨Nat.le_of_ble_eq_true rfl, Nat.le_of_ble_eq_true rfl⟩ ⟨Nat.le_of_ble_eq_true rfl, Nat.le_of_ble_eq_true rfl⟩ rfl (Nat.le_of_ble_eq_true rfl) dX0_init_26 ?_
  rintro _ ⟨n2b, rfl⟩
  refine g_putF F lay_X0 tyX0 tyX0_ok nmX0 0 rfl rfl 1 (by decide) fl_X0_20 rfl rfl hin rfl (ty := tyX0 1) rfl rfl rfl (Nat.le_of_ble_eq_true rfl) dX0_init_29 (ws' := [(h0, .inr (0, [.ref n1, .ref n2, .null, .null, .null, .null, .null, .int 0])), (n1, .inr (3, [.ref n1b])), (n1b, .inl (Y 0, 60, .inl (rfill 60 (fun _ => 0) 0))), (n2, .inr (3, [.ref n2b])), (n2b, .inl (Y 0, 60, .inl (rfill 60 (fun _ => 0) 0)))]) rfl ?_
  refine g_aload_n F dX0_init_32 0 rfl rfl ?_
  refine g_new (ci := 3) F lay_X3 tyX3 tyX3_ok cl_X0_9 it_X3 in_X3 rfl [.null] (by decide +kernel) ⟨Nat.le_of_ble_eq_true rfl, Nat.le_of_ble_eq_true rfl⟩ dX0_init_33 (fun n3 => ?_)
  refine g_dup F dX0_init_36 rfl ?_
  refine g_bipush (v := 60) F dX0_init_37 (by decide) ?_
  refine g_iconst (v := 0) F dX0_init_39 (by decide) ?_
  refine g_callI (n := 2) (As := [.int 60, .int 0]) F _ [] (kX3_init (a := n3) (n := 60) (x := 0) (by decide)) (List.append_nil _).symm (by unfold mOK; decide +kernel) rfl rfl cd_yX3_init ml_X0_11 im_yX3_init in_X3 ⟨Nat.le_of_ble_eq_true rfl, Nat.le_of_ble_eq_true rfl⟩ ⟨Nat.le_of_ble_eq_true rfl, Nat.le_of_ble_eq_true rfl⟩ rfl (Nat.le_of_ble_eq_true rfl) dX0_init_40 ?_
  rintro _ ⟨n3b, rfl⟩
  refine g_putF F lay_X0 tyX0 tyX0_ok nmX0 0 rfl rfl 2 (by decide) fl_X0_23 rfl rfl hin rfl (ty := tyX0 2) rfl rfl rfl (Nat.le_of_ble_eq_true rfl) dX0_init_43 (ws' := [(h0, .inr (0, [.ref n1, .ref n2, .ref n3, .null, .null, .null, .null, .int 0])), (n1, .inr (3, [.ref n1b])), (n1b, .inl (Y 0, 60, .inl (rfill 60 (fun _ => 0) 0))), (n2, .inr (3, [.ref n2b])), (n2b, .inl (Y 0, 60, .inl (rfill 60 (fun _ => 0) 0))), (n3, .inr (3, [.ref n3b])), (n3b, .inl (Y 0, 60, .inl (rfill 60 (fun _ => 0) 0)))]) rfl ?_
  refine g_aload_n F dX0_init_46 0 rfl rfl ?_
  refine g_new (ci := 3) F lay_X3 tyX3 tyX3_ok cl_X0_9 it_X3 in_X3 rfl [.null] (by decide +kernel) ⟨Nat.le_of_ble_eq_true rfl, Nat.le_of_ble_eq_true rfl⟩ dX0_init_47 (fun n4 => ?_)
  refine g_dup F dX0_init_50 rfl ?_
  refine g_bipush (v := 60) F dX0_init_51 (by decide) ?_
  refine g_iconst (v := 0) F dX0_init_53 (by decide) ?_
  refine g_callI (n := 2) (As := [.int 60, .int 0]) F _ [] (kX3_init (a := n4) (n := 60) (x := 0) (by decide)) (List.append_nil _).symm (by unfold mOK; decide +kernel) rfl rfl cd_yX3_init ml_X0_11 im_yX3_init in_X3 ⟨Nat.le_of_ble_eq_true rfl, Nat.le_of_ble_eq_true rfl⟩ ⟨Nat.le_of_ble_eq_true rfl, Nat.le_of_ble_eq_true rfl⟩ rfl (Nat.le_of_ble_eq_true rfl) dX0_init_54 ?_
  rintro _ ⟨n4b, rfl⟩
  refine g_putF F lay_X0 tyX0 tyX0_ok nmX0 0 rfl rfl 3 (by decide) fl_X0_26 rfl rfl hin rfl (ty := tyX0 3) rfl rfl rfl (Nat.le_of_ble_eq_true rfl) dX0_init_57 (ws' := [(h0, .inr (0, [.ref n1, .ref n2, .ref n3, .ref n4, .null, .null, .null, .int 0])), (n1, .inr (3, [.ref n1b])), (n1b, .inl (Y 0, 60, .inl (rfill 60 (fun _ => 0) 0))), (n2, .inr (3, [.ref n2b])), (n2b, .inl (Y 0, 60, .inl (rfill 60 (fun _ => 0) 0))), (n3, .inr (3, [.ref n3b])), (n3b, .inl (Y 0, 60, .inl (rfill 60 (fun _ => 0) 0))), (n4, .inr (3, [.ref n4b])), (n4b, .inl (Y 0, 60, .inl (rfill 60 (fun _ => 0) 0)))]) rfl ?_
  refine g_aload_n F dX0_init_60 0 rfl rfl ?_
  refine g_new (ci := 3) F lay_X3 tyX3 tyX3_ok cl_X0_9 it_X3 in_X3 rfl [.null] (by decide +kernel) ⟨Nat.le_of_ble_eq_true rfl, Nat.le_of_ble_eq_true rfl⟩ dX0_init_61 (fun n5 => ?_)
  refine g_dup F dX0_init_64 rfl ?_
  refine g_bipush (v := 60) F dX0_init_65 (by decide) ?_
  refine g_iconst (v := 0) F dX0_init_67 (by decide) ?_
  refine g_callI (n := 2) (As := [.int 60, .int 0]) F _ [] (kX3_init (a := n5) (n := 60) (x := 0) (by decide)) (List.append_nil _).symm (by unfold mOK; decide +kernel) rfl rfl cd_yX3_init ml_X0_11 im_yX3_init in_X3 ⟨Nat.le_of_ble_eq_true rfl, Nat.le_of_ble_eq_true rfl⟩ ⟨Nat.le_of_ble_eq_true rfl, Nat.le_of_ble_eq_true rfl⟩ rfl (Nat.le_of_ble_eq_true rfl) dX0_init_68 ?_
  rintro _ ⟨n5b, rfl⟩
  refine g_putF F lay_X0 tyX0 tyX0_ok nmX0 0 rfl rfl 4 (by decide) fl_X0_29 rfl rfl hin rfl (ty := tyX0 4) rfl rfl rfl (Nat.le_of_ble_eq_true rfl) dX0_init_71 (ws' := [(h0, .inr (0, [.ref n1, .ref n2, .ref n3, .ref n4, .ref n5, .null, .null, .int 0])), (n1, .inr (3, [.ref n1b])), (n1b, .inl (Y 0, 60, .inl (rfill 60 (fun _ => 0) 0))), (n2, .inr (3, [.ref n2b])), (n2b, .inl (Y 0, 60, .inl (rfill 60 (fun _ => 0) 0))), (n3, .inr (3, [.ref n3b])), (n3b, .inl (Y 0, 60, .inl (rfill 60 (fun _ => 0) 0))), (n4, .inr (3, [.ref n4b])), (n4b, .inl (Y 0, 60, .inl (rfill 60 (fun _ => 0) 0))), (n5, .inr (3, [.ref n5b])), (n5b, .inl (Y 0, 60, .inl (rfill 60 (fun _ => 0) 0)))]) rfl ?_
  refine g_aload_n F dX0_init_74 0 rfl rfl ?_
  refine g_new (ci := 3) F lay_X3 tyX3 tyX3_ok cl_X0_9 it_X3 in_X3 rfl [.null] (by decide +kernel) ⟨Nat.le_of_ble_eq_true rfl, Nat.le_of_ble_eq_true rfl⟩ dX0_init_75 (fun n6 => ?_)
  refine g_dup F dX0_init_78 rfl ?_
  refine g_bipush (v := 60) F dX0_init_79 (by decide) ?_
  refine g_iconst (v := 2) F dX0_init_81 (by decide) ?_
  refine g_callI (n := 2) (As := [.int 60, .int 2]) F _ [] (kX3_init (a := n6) (n := 60) (x := 2) (by decide)) (List.append_nil _).symm (by unfold mOK; decide +kernel) rfl rfl cd_yX3_init ml_X0_11 im_yX3_init in_X3 ⟨Nat.le_of_ble_eq_true rfl, Nat.le_of_ble_eq_true rfl⟩ ⟨Nat.le_of_ble_eq_true rfl, Nat.le_of_ble_eq_true rfl⟩ rfl (Nat.le_of_ble_eq_true rfl) dX0_init_82 ?_
  rintro _ ⟨n6b, rfl⟩
  refine g_putF F lay_X0 tyX0 tyX0_ok nmX0 0 rfl rfl 5 (by decide) fl_X0_32 rfl rfl hin rfl (ty := tyX0 5) rfl rfl rfl (Nat.le_of_ble_eq_true rfl) dX0_init_85 (ws' := [(h0, .inr (0, [.ref n1, .ref n2, .ref n3, .ref n4, .ref n5, .ref n6, .null, .int 0])), (n1, .inr (3, [.ref n1b])), (n1b, .inl (Y 0, 60, .inl (rfill 60 (fun _ => 0) 0))), (n2, .inr (3, [.ref n2b])), (n2b, .inl (Y 0, 60, .inl (rfill 60 (fun _ => 0) 0))), (n3, .inr (3, [.ref n3b])), (n3b, .inl (Y 0, 60, .inl (rfill 60 (fun _ => 0) 0))), (n4, .inr (3, [.ref n4b])), (n4b, .inl (Y 0, 60, .inl (rfill 60 (fun _ => 0) 0))), (n5, .inr (3, [.ref n5b])), (n5b, .inl (Y 0, 60, .inl (rfill 60 (fun _ => 0) 0))), (n6, .inr (3, [.ref n6b])), (n6b, .inl (Y 0, 60, .inl (rfill 60 (fun _ => 0) 2)))]) rfl ?_
  refine g_aload_n F dX0_init_88 0 rfl rfl ?_
  refine g_new (ci := 3) F lay_X3 tyX3 tyX3_ok cl_X0_9 it_X3 in_X3 rfl [.null] (by decide +kernel) ⟨Nat.le_of_ble_eq_true rfl, Nat.le_of_ble_eq_true rfl⟩ dX0_init_89 (fun n7 => ?_)
  refine g_dup F dX0_init_92 rfl ?_
  refine g_bipush (v := 60) F dX0_init_93 (by decide) ?_
  refine g_iconst (v := (-1)) F dX0_init_95 (by decide) ?_
  refine g_callI (n := 2) (As := [.int 60, .int (-1)]) F _ [] (kX3_init (a := n7) (n := 60) (x := (-1)) (by decide)) (List.append_nil _).symm (by unfold mOK; decide +kernel) rfl rfl cd_yX3_init ml_X0_11 im_yX3_init in_X3 ⟨Nat.le_of_ble_eq_true rfl, Nat.le_of_ble_eq_true rfl⟩ ⟨Nat.le_of_ble_eq_true rfl, Nat.le_of_ble_eq_true rfl⟩ rfl (Nat.le_of_ble_eq_true rfl) dX0_init_96 ?_
  rintro _ ⟨n7b, rfl⟩
  refine g_putF F lay_X0 tyX0 tyX0_ok nmX0 0 rfl rfl 6 (by decide) fl_X0_35 rfl rfl hin rfl (ty := tyX0 6) rfl rfl rfl (Nat.le_of_ble_eq_true rfl) dX0_init_99 (ws' := [(h0, .inr (0, [.ref n1, .ref n2, .ref n3, .ref n4, .ref n5, .ref n6, .ref n7, .int 0])), (n1, .inr (3, [.ref n1b])), (n1b, .inl (Y 0, 60, .inl (rfill 60 (fun _ => 0) 0))), (n2, .inr (3, [.ref n2b])), (n2b, .inl (Y 0, 60, .inl (rfill 60 (fun _ => 0) 0))), (n3, .inr (3, [.ref n3b])), (n3b, .inl (Y 0, 60, .inl (rfill 60 (fun _ => 0) 0))), (n4, .inr (3, [.ref n4b])), (n4b, .inl (Y 0, 60, .inl (rfill 60 (fun _ => 0) 0))), (n5, .inr (3, [.ref n5b])), (n5b, .inl (Y 0, 60, .inl (rfill 60 (fun _ => 0) 0))), (n6, .inr (3, [.ref n6b])), (n6b, .inl (Y 0, 60, .inl (rfill 60 (fun _ => 0) 2))), (n7, .inr (3, [.ref n7b])), (n7b, .inl (Y 0, 60, .inl (rfill 60 (fun _ => 0) (-1))))]) rfl ?_
  refine g_widen (k := 14) (n := 427) (Nat.le_of_ble_eq_true rfl) (Nat.le_of_ble_eq_true rfl) ?_
  exact g_nret F hr hlk dX0_init_102 ⟨fun i => ([n1, n1b, n2, n2b, n3, n3b, n4, n4b, n5, n5b, n6, n6b, n7, n7b] : List Nat).getD i 0, rfl⟩
theorem dX5_init_0 : decode cX5_init 0 = .ok (.aload_n 0, 1) := by decide +kernel
theorem dX5_init_1 : decode cX5_init 1 = .ok (.invokespecial 3, 3) := by decide +kernel
theorem dX5_init_4 : decode cX5_init 4 = .ok (.aload_n 0, 1) := by decide +kernel
theorem dX5_init_5 : decode cX5_init 5 = .ok (.new 9, 3) := by decide +kernel
theorem dX5_init_8 : decode cX5_init 8 = .ok (.dup, 1) := by decide +kernel
theorem dX5_init_9 : decode cX5_init 9 = .ok (.bipush 10, 2) := by decide +kernel
theorem dX5_init_11 : decode cX5_init 11 = .ok (.iconst 0, 1) := by decide +kernel
theorem dX5_init_12 : decode cX5_init 12 = .ok (.invokespecial 11, 3) := by decide +kernel
theorem dX5_init_15 : decode cX5_init 15 = .ok (.putfield 14, 3) := by decide +kernel
theorem dX5_init_18 : decode cX5_init 18 = .ok (.aload_n 0, 1) := by decide +kernel
theorem dX5_init_19 : decode cX5_init 19 = .ok (.new 9, 3) := by decide +kernel
theorem dX5_init_22 : decode cX5_init 22 = .ok (.dup, 1) := by decide +kernel
theorem dX5_init_23 : decode cX5_init 23 = .ok (.bipush 40, 2) := by decide +kernel
theorem dX5_init_25 : decode cX5_init 25 = .ok (.iconst (-1), 1) := by decide +kernel
theorem dX5_init_26 : decode cX5_init 26 = .ok (.invokespecial 11, 3) := by decide +kernel
theorem dX5_init_29 : decode cX5_init 29 = .ok (.putfield 20, 3) := by decide +kernel
theorem dX5_init_32 : decode cX5_init 32 = .ok (.return_, 1) := by decide +kernel
def iX5 (Y : Nat → ClassId) (h0 : Nat) (t : Nat → Nat) : va_W := [(h0, .inr (5, [.ref (t 0), .ref (t 2)])), (t 0, .inr (3, [.ref (t 1)])), (t 1, .inl (Y 0, 10, .inl (rfill 10 (fun _ => 0) 0))), (t 2, .inr (3, [.ref (t 3)])), (t 3, .inl (Y 0, 40, .inl (rfill 40 (fun _ => 0) (-1))))]
set_option maxHeartbeats 8000000 in
set_option maxRecDepth 40000 in
theorem kX5_init {l : Launch} {D : va_G} {Y : Nat → ClassId} {h0 : Nat} : CN l yX5_init cX5_init 1 2 43 4 52 D Y [(h0, .inr (5, [.null, .null]))] [.ref h0] (fun w1 => ∃ t, w1 = iX5 Y h0 t) := by
  refine cm_ofn (by decide) (Nat.le_of_ble_eq_true rfl) rfl (fun p e s m args below meth c A F hr hlk hin => ?_)
  show GW p l e { frames := 2, cells := 4, slots := 52, locals := 43 } s m args below meth c D A 1 0 0 (QN below args s D A 4 52 (fun w1 => ∃ t, w1 = iX5 Y h0 t)) [(h0, .inr (5, [.null, .null]))] 0 [(0, .ref h0)] []
  refine g_aload_n F dX5_init_0 0 rfl rfl ?_
  refine g_objInit F ml_X5_3 dX5_init_1 ⟨Nat.le_of_ble_eq_true rfl, Nat.le_of_ble_eq_true rfl⟩ ?_
  refine g_aload_n F dX5_init_4 0 rfl rfl ?_
  refine g_new (ci := 3) F lay_X3 tyX3 tyX3_ok cl_X5_9 it_X3 in_X3 rfl [.null] (by decide +kernel) ⟨Nat.le_of_ble_eq_true rfl, Nat.le_of_ble_eq_true rfl⟩ dX5_init_5 (fun n1 => ?_)
  refine g_dup F dX5_init_8 rfl ?_
  refine g_bipush (v := 10) F dX5_init_9 (by decide) ?_
  refine g_iconst (v := 0) F dX5_init_11 (by decide) ?_
  refine g_callI (n := 2) (As := [.int 10, .int 0]) F _ [] (kX3_init (a := n1) (n := 10) (x := 0) (by decide)) (List.append_nil _).symm (by unfold mOK; decide +kernel) rfl rfl cd_yX3_init ml_X5_11 im_yX3_init in_X3 ⟨Nat.le_of_ble_eq_true rfl, Nat.le_of_ble_eq_true rfl⟩ ⟨Nat.le_of_ble_eq_true rfl, Nat.le_of_ble_eq_true rfl⟩ rfl (Nat.le_of_ble_eq_true rfl) dX5_init_12 ?_
  rintro _ ⟨n1b, rfl⟩
  refine g_putF F lay_X5 tyX5 tyX5_ok nmX5 0 rfl rfl 0 (by decide) fl_X5_14 rfl rfl hin rfl (ty := tyX5 0) rfl rfl rfl (Nat.le_of_ble_eq_true rfl) dX5_init_15 (ws' := [(h0, .inr (5, [.ref n1, .null])), (n1, .inr (3, [.ref n1b])), (n1b, .inl (Y 0, 10, .inl (rfill 10 (fun _ => 0) 0)))]) rfl ?_
  refine g_aload_n F dX5_init_18 0 rfl rfl ?_
  refine g_new (ci := 3) F lay_X3 tyX3 tyX3_ok cl_X5_9 it_X3 in_X3 rfl [.null] (by decide +kernel) ⟨Nat.le_of_ble_eq_true rfl, Nat.le_of_ble_eq_true rfl⟩ dX5_init_19 (fun n2 => ?_)
  refine g_dup F dX5_init_22 rfl ?_
  refine g_bipush (v := 40) F dX5_init_23 (by decide) ?_
  refine g_iconst (v := (-1)) F dX5_init_25 (by decide) ?_
  refine g_callI (n := 2) (As := [.int 40, .int (-1)]) F _ [] (kX3_init (a := n2) (n := 40) (x := (-1)) (by decide)) (List.append_nil _).symm (by unfold mOK; decide +kernel) rfl rfl cd_yX3_init ml_X5_11 im_yX3_init in_X3 ⟨Nat.le_of_ble_eq_true rfl, Nat.le_of_ble_eq_true rfl⟩ ⟨Nat.le_of_ble_eq_true rfl, Nat.le_of_ble_eq_true rfl⟩ rfl (Nat.le_of_ble_eq_true rfl) dX5_init_26 ?_
  rintro _ ⟨n2b, rfl⟩
  refine g_putF F lay_X5 tyX5 tyX5_ok nmX5 0 rfl rfl 1 (by decide) fl_X5_20 rfl rfl hin rfl (ty := tyX5 1) rfl rfl rfl (Nat.le_of_ble_eq_true rfl) dX5_init_29 (ws' := [(h0, .inr (5, [.ref n1, .ref n2])), (n1, .inr (3, [.ref n1b])), (n1b, .inl (Y 0, 10, .inl (rfill 10 (fun _ => 0) 0))), (n2, .inr (3, [.ref n2b])), (n2b, .inl (Y 0, 40, .inl (rfill 40 (fun _ => 0) (-1))))]) rfl ?_
  refine g_widen (k := 4) (n := 52) (Nat.le_of_ble_eq_true rfl) (Nat.le_of_ble_eq_true rfl) ?_
  exact g_nret F hr hlk dX5_init_32 ⟨fun i => ([n1, n1b, n2, n2b] : List Nat).getD i 0, rfl⟩
theorem dX4_init_0 : decode cX4_init 0 = .ok (.aload_n 0, 1) := by decide +kernel
theorem dX4_init_1 : decode cX4_init 1 = .ok (.invokespecial 3, 3) := by decide +kernel
theorem dX4_init_4 : decode cX4_init 4 = .ok (.aload_n 0, 1) := by decide +kernel
theorem dX4_init_5 : decode cX4_init 5 = .ok (.new 9, 3) := by decide +kernel
theorem dX4_init_8 : decode cX4_init 8 = .ok (.dup, 1) := by decide +kernel
theorem dX4_init_9 : decode cX4_init 9 = .ok (.bipush 6, 2) := by decide +kernel
theorem dX4_init_11 : decode cX4_init 11 = .ok (.iconst 0, 1) := by decide +kernel
theorem dX4_init_12 : decode cX4_init 12 = .ok (.invokespecial 11, 3) := by decide +kernel
theorem dX4_init_15 : decode cX4_init 15 = .ok (.putfield 14, 3) := by decide +kernel
theorem dX4_init_18 : decode cX4_init 18 = .ok (.aload_n 0, 1) := by decide +kernel
theorem dX4_init_19 : decode cX4_init 19 = .ok (.new 9, 3) := by decide +kernel
theorem dX4_init_22 : decode cX4_init 22 = .ok (.dup, 1) := by decide +kernel
theorem dX4_init_23 : decode cX4_init 23 = .ok (.bipush 6, 2) := by decide +kernel
theorem dX4_init_25 : decode cX4_init 25 = .ok (.iconst 0, 1) := by decide +kernel
theorem dX4_init_26 : decode cX4_init 26 = .ok (.invokespecial 11, 3) := by decide +kernel
theorem dX4_init_29 : decode cX4_init 29 = .ok (.putfield 20, 3) := by decide +kernel
theorem dX4_init_32 : decode cX4_init 32 = .ok (.aload_n 0, 1) := by decide +kernel
theorem dX4_init_33 : decode cX4_init 33 = .ok (.new 9, 3) := by decide +kernel
theorem dX4_init_36 : decode cX4_init 36 = .ok (.dup, 1) := by decide +kernel
theorem dX4_init_37 : decode cX4_init 37 = .ok (.bipush 6, 2) := by decide +kernel
theorem dX4_init_39 : decode cX4_init 39 = .ok (.iconst 0, 1) := by decide +kernel
theorem dX4_init_40 : decode cX4_init 40 = .ok (.invokespecial 11, 3) := by decide +kernel
theorem dX4_init_43 : decode cX4_init 43 = .ok (.putfield 23, 3) := by decide +kernel
theorem dX4_init_46 : decode cX4_init 46 = .ok (.aload_n 0, 1) := by decide +kernel
theorem dX4_init_47 : decode cX4_init 47 = .ok (.new 9, 3) := by decide +kernel
theorem dX4_init_50 : decode cX4_init 50 = .ok (.dup, 1) := by decide +kernel
theorem dX4_init_51 : decode cX4_init 51 = .ok (.bipush 6, 2) := by decide +kernel
theorem dX4_init_53 : decode cX4_init 53 = .ok (.iconst 0, 1) := by decide +kernel
theorem dX4_init_54 : decode cX4_init 54 = .ok (.invokespecial 11, 3) := by decide +kernel
theorem dX4_init_57 : decode cX4_init 57 = .ok (.putfield 26, 3) := by decide +kernel
theorem dX4_init_60 : decode cX4_init 60 = .ok (.aload_n 0, 1) := by decide +kernel
theorem dX4_init_61 : decode cX4_init 61 = .ok (.new 9, 3) := by decide +kernel
theorem dX4_init_64 : decode cX4_init 64 = .ok (.dup, 1) := by decide +kernel
theorem dX4_init_65 : decode cX4_init 65 = .ok (.bipush 72, 2) := by decide +kernel
theorem dX4_init_67 : decode cX4_init 67 = .ok (.iconst (-1), 1) := by decide +kernel
theorem dX4_init_68 : decode cX4_init 68 = .ok (.invokespecial 11, 3) := by decide +kernel
theorem dX4_init_71 : decode cX4_init 71 = .ok (.putfield 29, 3) := by decide +kernel
theorem dX4_init_74 : decode cX4_init 74 = .ok (.aload_n 0, 1) := by decide +kernel
theorem dX4_init_75 : decode cX4_init 75 = .ok (.new 9, 3) := by decide +kernel
theorem dX4_init_78 : decode cX4_init 78 = .ok (.dup, 1) := by decide +kernel
theorem dX4_init_79 : decode cX4_init 79 = .ok (.bipush 72, 2) := by decide +kernel
theorem dX4_init_81 : decode cX4_init 81 = .ok (.iconst 0, 1) := by decide +kernel
theorem dX4_init_82 : decode cX4_init 82 = .ok (.invokespecial 11, 3) := by decide +kernel
theorem dX4_init_85 : decode cX4_init 85 = .ok (.putfield 32, 3) := by decide +kernel
theorem dX4_init_88 : decode cX4_init 88 = .ok (.return_, 1) := by decide +kernel
def iX4 (Y : Nat → ClassId) (h0 : Nat) (t : Nat → Nat) : va_W := [(h0, .inr (4, [.ref (t 0), .ref (t 2), .ref (t 4), .ref (t 6), .int 0, .ref (t 8), .ref (t 10)])), (t 0, .inr (3, [.ref (t 1)])), (t 1, .inl (Y 0, 6, .inl (rfill 6 (fun _ => 0) 0))), (t 2, .inr (3, [.ref (t 3)])), (t 3, .inl (Y 0, 6, .inl (rfill 6 (fun _ => 0) 0))), (t 4, .inr (3, [.ref (t 5)])), (t 5, .inl (Y 0, 6, .inl (rfill 6 (fun _ => 0) 0))), (t 6, .inr (3, [.ref (t 7)])), (t 7, .inl (Y 0, 6, .inl (rfill 6 (fun _ => 0) 0))), (t 8, .inr (3, [.ref (t 9)])), (t 9, .inl (Y 0, 72, .inl (rfill 72 (fun _ => 0) (-1)))), (t 10, .inr (3, [.ref (t 11)])), (t 11, .inl (Y 0, 72, .inl (rfill 72 (fun _ => 0) 0)))]
set_option maxHeartbeats 8000000 in
set_option maxRecDepth 40000 in
theorem kX4_init {l : Launch} {D : va_G} {Y : Nat → ClassId} {h0 : Nat} : CN l yX4_init cX4_init 1 2 43 12 174 D Y [(h0, .inr (4, [.null, .null, .null, .null, .int 0, .null, .null]))] [.ref h0] (fun w1 => ∃ t, w1 = iX4 Y h0 t) := by
  refine cm_ofn (by decide) (Nat.le_of_ble_eq_true rfl) rfl (fun p e s m args below meth c A F hr hlk hin => ?_)
  show GW p l e { frames := 2, cells := 12, slots := 174, locals := 43 } s m args below meth c D A 1 0 0 (QN below args s D A 12 174 (fun w1 => ∃ t, w1 = iX4 Y h0 t)) [(h0, .inr (4, [.null, .null, .null, .null, .int 0, .null, .null]))] 0 [(0, .ref h0)] []
  refine g_aload_n F dX4_init_0 0 rfl rfl ?_
  refine g_objInit F ml_X4_3 dX4_init_1 ⟨Nat.le_of_ble_eq_true rfl, Nat.le_of_ble_eq_true rfl⟩ ?_
  refine g_aload_n F dX4_init_4 0 rfl rfl ?_
  refine g_new (ci := 3) F lay_X3 tyX3 tyX3_ok cl_X4_9 it_X3 in_X3 rfl [.null] (by decide +kernel) ⟨Nat.le_of_ble_eq_true rfl, Nat.le_of_ble_eq_true rfl⟩ dX4_init_5 (fun n1 => ?_)
  refine g_dup F dX4_init_8 rfl ?_
  refine g_bipush (v := 6) F dX4_init_9 (by decide) ?_
  refine g_iconst (v := 0) F dX4_init_11 (by decide) ?_
  refine g_callI (n := 2) (As := [.int 6, .int 0]) F _ [] (kX3_init (a := n1) (n := 6) (x := 0) (by decide)) (List.append_nil _).symm (by unfold mOK; decide +kernel) rfl rfl cd_yX3_init ml_X4_11 im_yX3_init in_X3 ⟨Nat.le_of_ble_eq_true rfl, Nat.le_of_ble_eq_true rfl⟩ ⟨Nat.le_of_ble_eq_true rfl, Nat.le_of_ble_eq_true rfl⟩ rfl (Nat.le_of_ble_eq_true rfl) dX4_init_12 ?_
  rintro _ ⟨n1b, rfl⟩
  refine g_putF F lay_X4 tyX4 tyX4_ok nmX4 0 rfl rfl 0 (by decide) fl_X4_14 rfl rfl hin rfl (ty := tyX4 0) rfl rfl rfl (Nat.le_of_ble_eq_true rfl) dX4_init_15 (ws' := [(h0, .inr (4, [.ref n1, .null, .null, .null, .int 0, .null, .null])), (n1, .inr (3, [.ref n1b])), (n1b, .inl (Y 0, 6, .inl (rfill 6 (fun _ => 0) 0)))]) rfl ?_
  refine g_aload_n F dX4_init_18 0 rfl rfl ?_
  refine g_new (ci := 3) F lay_X3 tyX3 tyX3_ok cl_X4_9 it_X3 in_X3 rfl [.null] (by decide +kernel) ⟨Nat.le_of_ble_eq_true rfl, Nat.le_of_ble_eq_true rfl⟩ dX4_init_19 (fun n2 => ?_)
  refine g_dup F dX4_init_22 rfl ?_
  refine g_bipush (v := 6) F dX4_init_23 (by decide) ?_
  refine g_iconst (v := 0) F dX4_init_25 (by decide) ?_
  refine g_callI (n := 2) (As := [.int 6, .int 0]) F _ [] (kX3_init (a := n2) (n := 6) (x := 0) (by decide)) (List.append_nil _).symm (by unfold mOK; decide +kernel) rfl rfl cd_yX3_init ml_X4_11 im_yX3_init in_X3 ⟨Nat.le_of_ble_eq_true rfl, Nat.le_of_ble_eq_true rfl⟩ ⟨Nat.le_of_ble_eq_true rfl, Nat.le_of_ble_eq_true rfl⟩ rfl (Nat.le_of_ble_eq_true rfl) dX4_init_26 ?_
  rintro _ ⟨n2b, rfl⟩
  refine g_putF F lay_X4 tyX4 tyX4_ok nmX4 0 rfl rfl 1 (by decide) fl_X4_20 rfl rfl hin rfl (ty := tyX4 1) rfl rfl rfl (Nat.le_of_ble_eq_true rfl) dX4_init_29 (ws' := [(h0, .inr (4, [.ref n1, .ref n2, .null, .null, .int 0, .null, .null])), (n1, .inr (3, [.ref n1b])), (n1b, .inl (Y 0, 6, .inl (rfill 6 (fun _ => 0) 0))), (n2, .inr (3, [.ref n2b])), (n2b, .inl (Y 0, 6, .inl (rfill 6 (fun _ => 0) 0)))]) rfl ?_
  refine g_aload_n F dX4_init_32 0 rfl rfl ?_
  refine g_new (ci := 3) F lay_X3 tyX3 tyX3_ok cl_X4_9 it_X3 in_X3 rfl [.null] (by decide +kernel) ⟨Nat.le_of_ble_eq_true rfl, Nat.le_of_ble_eq_true rfl⟩ dX4_init_33 (fun n3 => ?_)
  refine g_dup F dX4_init_36 rfl ?_
  refine g_bipush (v := 6) F dX4_init_37 (by decide) ?_
  refine g_iconst (v := 0) F dX4_init_39 (by decide) ?_
  refine g_callI (n := 2) (As := [.int 6, .int 0]) F _ [] (kX3_init (a := n3) (n := 6) (x := 0) (by decide)) (List.append_nil _).symm (by unfold mOK; decide +kernel) rfl rfl cd_yX3_init ml_X4_11 im_yX3_init in_X3 ⟨Nat.le_of_ble_eq_true rfl, Nat.le_of_ble_eq_true rfl⟩ ⟨Nat.le_of_ble_eq_true rfl, Nat.le_of_ble_eq_true rfl⟩ rfl (Nat.le_of_ble_eq_true rfl) dX4_init_40 ?_
  rintro _ ⟨n3b, rfl⟩
  refine g_putF F lay_X4 tyX4 tyX4_ok nmX4 0 rfl rfl 2 (by decide) fl_X4_23 rfl rfl hin rfl (ty := tyX4 2) rfl rfl rfl (Nat.le_of_ble_eq_true rfl) dX4_init_43 (ws' := [(h0, .inr (4, [.ref n1, .ref n2, .ref n3, .null, .int 0, .null, .null])), (n1, .inr (3, [.ref n1b])), (n1b, .inl (Y 0, 6, .inl (rfill 6 (fun _ => 0) 0))), (n2, .inr (3, [.ref n2b])), (n2b, .inl (Y 0, 6, .inl (rfill 6 (fun _ => 0) 0))), (n3, .inr (3, [.ref n3b])), (n3b, .inl (Y 0, 6, .inl (rfill 6 (fun _ => 0) 0)))]) rfl ?_
  refine g_aload_n F dX4_init_46 0 rfl rfl ?_
  refine g_new (ci := 3) F lay_X3 tyX3 tyX3_ok cl_X4_9 it_X3 in_X3 rfl [.null] (by decide +kernel) ⟨Nat.le_of_ble_eq_true rfl, Nat.le_of_ble_eq_true rfl⟩ dX4_init_47 (fun n4 => ?_)
  refine g_dup F dX4_init_50 rfl ?_
  refine g_bipush (v := 6) F dX4_init_51 (by decide) ?_
  refine g_iconst (v := 0) F dX4_init_53 (by decide) ?_
  refine g_callI (n := 2) (As := [.int 6, .int 0]) F _ [] (kX3_init (a := n4) (n := 6) (x := 0) (by decide)) (List.append_nil _).symm (by unfold mOK; decide +kernel) rfl rfl cd_yX3_init ml_X4_11 im_yX3_init in_X3 ⟨Nat.le_of_ble_eq_true rfl, Nat.le_of_ble_eq_true rfl⟩ ⟨Nat.le_of_ble_eq_true rfl, Nat.le_of_ble_eq_true rfl⟩ rfl (Nat.le_of_ble_eq_true rfl) dX4_init_54 ?_
  rintro _ ⟨n4b, rfl⟩
  refine g_putF F lay_X4 tyX4 tyX4_ok nmX4 0 rfl rfl 3 (by decide) fl_X4_26 rfl rfl hin rfl (ty := tyX4 3) rfl rfl rfl (Nat.le_of_ble_eq_true rfl) dX4_init_57 (ws' := [(h0, .inr (4, [.ref n1, .ref n2, .ref n3, .ref n4, .int 0, .null, .null])), (n1, .inr (3, [.ref n1b])), (n1b, .inl (Y 0, 6, .inl (rfill 6 (fun _ => 0) 0))), (n2, .inr (3, [.ref n2b])), (n2b, .inl (Y 0, 6, .inl (rfill 6 (fun _ => 0) 0))), (n3, .inr (3, [.ref n3b])), (n3b, .inl (Y 0, 6, .inl (rfill 6 (fun _ => 0) 0))), (n4, .inr (3, [.ref n4b])), (n4b, .inl (Y 0, 6, .inl (rfill 6 (fun _ => 0) 0)))]) rfl ?_
  refine g_aload_n F dX4_init_60 0 rfl rfl ?_
  refine g_new (ci := 3) F lay_X3 tyX3 tyX3_ok cl_X4_9 it_X3 in_X3 rfl [.null] (by decide +kernel) ⟨Nat.le_of_ble_eq_true rfl, Nat.le_of_ble_eq_true rfl⟩ dX4_init_61 (fun n5 => ?_)
  refine g_dup F dX4_init_64 rfl ?_
  refine g_bipush (v := 72) F dX4_init_65 (by decide) ?_
  refine g_iconst (v := (-1)) F dX4_init_67 (by decide) ?_
  refine g_callI (n := 2) (As := [.int 72, .int (-1)]) F _ [] (kX3_init (a := n5) (n := 72) (x := (-1)) (by decide)) (List.append_nil _).symm (by unfold mOK; decide +kernel) rfl rfl cd_yX3_init ml_X4_11 im_yX3_init in_X3 ⟨Nat.le_of_ble_eq_true rfl, Nat.le_of_ble_eq_true rfl⟩ ⟨Nat.le_of_ble_eq_true rfl, Nat.le_of_ble_eq_true rfl⟩ rfl (Nat.le_of_ble_eq_true rfl) dX4_init_68 ?_
  rintro _ ⟨n5b, rfl⟩
  refine g_putF F lay_X4 tyX4 tyX4_ok nmX4 0 rfl rfl 5 (by decide) fl_X4_29 rfl rfl hin rfl (ty := tyX4 5) rfl rfl rfl (Nat.le_of_ble_eq_true rfl) dX4_init_71 (ws' := [(h0, .inr (4, [.ref n1, .ref n2, .ref n3, .ref n4, .int 0, .ref n5, .null])), (n1, .inr (3, [.ref n1b])), (n1b, .inl (Y 0, 6, .inl (rfill 6 (fun _ => 0) 0))), (n2, .inr (3, [.ref n2b])), (n2b, .inl (Y 0, 6, .inl (rfill 6 (fun _ => 0) 0))), (n3, .inr (3, [.ref n3b])), (n3b, .inl (Y 0, 6, .inl (rfill 6 (fun _ => 0) 0))), (n4, .inr (3, [.ref n4b])), (n4b, .inl (Y 0, 6, .inl (rfill 6 (fun _ => 0) 0))), (n5, .inr (3, [.ref n5b])), (n5b, .inl (Y 0, 72, .inl (rfill 72 (fun _ => 0) (-1))))]) rfl ?_
  refine g_aload_n F dX4_init_74 0 rfl rfl ?_
  refine g_new (ci := 3) F lay_X3 tyX3 tyX3_ok cl_X4_9 it_X3 in_X3 rfl [.null] (by decide +kernel) ⟨Nat.le_of_ble_eq_true rfl, Nat.le_of_ble_eq_true rfl⟩ dX4_init_75 (fun n6 => ?_)
  refine g_dup F dX4_init_78 rfl ?_
  refine g_bipush (v := 72) F dX4_init_79 (by decide) ?_
  refine g_iconst (v := 0) F dX4_init_81 (by decide) ?_
  refine g_callI (n := 2) (As := [.int 72, .int 0]) F _ [] (kX3_init (a := n6) (n := 72) (x := 0) (by decide)) (List.append_nil _).symm (by unfold mOK; decide +kernel) rfl rfl cd_yX3_init ml_X4_11 im_yX3_init in_X3 ⟨Nat.le_of_ble_eq_true rfl, Nat.le_of_ble_eq_true rfl⟩ ⟨Nat.le_of_ble_eq_true rfl, Nat.le_of_ble_eq_true rfl⟩ rfl (Nat.le_of_ble_eq_true rfl) dX4_init_82 ?_
  rintro _ ⟨n6b, rfl⟩
  refine g_putF F lay_X4 tyX4 tyX4_ok nmX4 0 rfl rfl 6 (by decide) fl_X4_32 rfl rfl hin rfl (ty := tyX4 6) rfl rfl rfl (Nat.le_of_ble_eq_true rfl) dX4_init_85 (ws' := [(h0, .inr (4, [.ref n1, .ref n2, .ref n3, .ref n4, .int 0, .ref n5, .ref n6])), (n1, .inr (3, [.ref n1b])), (n1b, .inl (Y 0, 6, .inl (rfill 6 (fun _ => 0) 0))), (n2, .inr (3, [.ref n2b])), (n2b, .inl (Y 0, 6, .inl (rfill 6 (fun _ => 0) 0))), (n3, .inr (3, [.ref n3b])), (n3b, .inl (Y 0, 6, .inl (rfill 6 (fun _ => 0) 0))), (n4, .inr (3, [.ref n4b])), (n4b, .inl (Y 0, 6, .inl (rfill 6 (fun _ => 0) 0))), (n5, .inr (3, [.ref n5b])), (n5b, .inl (Y 0, 72, .inl (rfill 72 (fun _ => 0) (-1)))), (n6, .inr (3, [.ref n6b])), (n6b, .inl (Y 0, 72, .inl (rfill 72 (fun _ => 0) 0)))]) rfl ?_
  refine g_widen (k := 12) (n := 174) (Nat.le_of_ble_eq_true rfl) (Nat.le_of_ble_eq_true rfl) ?_
  exact g_nret F hr hlk dX4_init_88 ⟨fun i => ([n1, n1b, n2, n2b, n3, n3b, n4, n4b, n5, n5b, n6, n6b] : List Nat).getD i 0, rfl⟩
theorem dX2_init_0 : decode cX2_init 0 = .ok (.aload_n 0, 1) := by decide +kernel
theorem dX2_init_1 : decode cX2_init 1 = .ok (.invokespecial 3, 3) := by decide +kernel
theorem dX2_init_4 : decode cX2_init 4 = .ok (.aload_n 0, 1) := by decide +kernel
theorem dX2_init_5 : decode cX2_init 5 = .ok (.new 9, 3) := by decide +kernel
theorem dX2_init_8 : decode cX2_init 8 = .ok (.dup, 1) := by decide +kernel
theorem dX2_init_9 : decode cX2_init 9 = .ok (.bipush 20, 2) := by decide +kernel
theorem dX2_init_11 : decode cX2_init 11 = .ok (.iconst (-1), 1) := by decide +kernel
theorem dX2_init_12 : decode cX2_init 12 = .ok (.invokespecial 11, 3) := by decide +kernel
theorem dX2_init_15 : decode cX2_init 15 = .ok (.putfield 14, 3) := by decide +kernel
theorem dX2_init_18 : decode cX2_init 18 = .ok (.aload_n 0, 1) := by decide +kernel
theorem dX2_init_19 : decode cX2_init 19 = .ok (.new 9, 3) := by decide +kernel
theorem dX2_init_22 : decode cX2_init 22 = .ok (.dup, 1) := by decide +kernel
theorem dX2_init_23 : decode cX2_init 23 = .ok (.bipush 20, 2) := by decide +kernel
theorem dX2_init_25 : decode cX2_init 25 = .ok (.iconst (-1), 1) := by decide +kernel
theorem dX2_init_26 : decode cX2_init 26 = .ok (.invokespecial 11, 3) := by decide +kernel
theorem dX2_init_29 : decode cX2_init 29 = .ok (.putfield 20, 3) := by decide +kernel
theorem dX2_init_32 : decode cX2_init 32 = .ok (.aload_n 0, 1) := by decide +kernel
theorem dX2_init_33 : decode cX2_init 33 = .ok (.new 9, 3) := by decide +kernel
theorem dX2_init_36 : decode cX2_init 36 = .ok (.dup, 1) := by decide +kernel
theorem dX2_init_37 : decode cX2_init 37 = .ok (.bipush 20, 2) := by decide +kernel
theorem dX2_init_39 : decode cX2_init 39 = .ok (.iconst (-1), 1) := by decide +kernel
theorem dX2_init_40 : decode cX2_init 40 = .ok (.invokespecial 11, 3) := by decide +kernel
theorem dX2_init_43 : decode cX2_init 43 = .ok (.putfield 23, 3) := by decide +kernel
theorem dX2_init_46 : decode cX2_init 46 = .ok (.return_, 1) := by decide +kernel
def iX2 (Y : Nat → ClassId) (h0 : Nat) (t : Nat → Nat) : va_W := [(h0, .inr (2, [.ref (t 0), .ref (t 2), .ref (t 4), .int 0])), (t 0, .inr (3, [.ref (t 1)])), (t 1, .inl (Y 0, 20, .inl (rfill 20 (fun _ => 0) (-1)))), (t 2, .inr (3, [.ref (t 3)])), (t 3, .inl (Y 0, 20, .inl (rfill 20 (fun _ => 0) (-1)))), (t 4, .inr (3, [.ref (t 5)])), (t 5, .inl (Y 0, 20, .inl (rfill 20 (fun _ => 0) (-1))))]
set_option maxHeartbeats 8000000 in
set_option maxRecDepth 40000 in
theorem kX2_init {l : Launch} {D : va_G} {Y : Nat → ClassId} {h0 : Nat} : CN l yX2_init cX2_init 1 2 43 6 63 D Y [(h0, .inr (2, [.null, .null, .null, .int 0]))] [.ref h0] (fun w1 => ∃ t, w1 = iX2 Y h0 t) := by
  refine cm_ofn (by decide) (Nat.le_of_ble_eq_true rfl) rfl (fun p e s m args below meth c A F hr hlk hin => ?_)
  show GW p l e { frames := 2, cells := 6, slots := 63, locals := 43 } s m args below meth c D A 1 0 0 (QN below args s D A 6 63 (fun w1 => ∃ t, w1 = iX2 Y h0 t)) [(h0, .inr (2, [.null, .null, .null, .int 0]))] 0 [(0, .ref h0)] []
  refine g_aload_n F dX2_init_0 0 rfl rfl ?_
  refine g_objInit F ml_X2_3 dX2_init_1 ⟨Nat.le_of_ble_eq_true rfl, Nat.le_of_ble_eq_true rfl⟩ ?_
  refine g_aload_n F dX2_init_4 0 rfl rfl ?_
  refine g_new (ci := 3) F lay_X3 tyX3 tyX3_ok cl_X2_9 it_X3 in_X3 rfl [.null] (by decide +kernel) ⟨Nat.le_of_ble_eq_true rfl, Nat.le_of_ble_eq_true rfl⟩ dX2_init_5 (fun n1 => ?_)
  refine g_dup F dX2_init_8 rfl ?_
  refine g_bipush (v := 20) F dX2_init_9 (by decide) ?_
  refine g_iconst (v := (-1)) F dX2_init_11 (by decide) ?_
  refine g_callI (n := 2) (As := [.int 20, .int (-1)]) F _ [] (kX3_init (a := n1) (n := 20) (x := (-1)) (by decide)) (List.append_nil _).symm (by unfold mOK; decide +kernel) rfl rfl cd_yX3_init ml_X2_11 im_yX3_init in_X3 ⟨Nat.le_of_ble_eq_true rfl, Nat.le_of_ble_eq_true rfl⟩ ⟨Nat.le_of_ble_eq_true rfl, Nat.le_of_ble_eq_true rfl⟩ rfl (Nat.le_of_ble_eq_true rfl) dX2_init_12 ?_
  rintro _ ⟨n1b, rfl⟩
  refine g_putF F lay_X2 tyX2 tyX2_ok nmX2 0 rfl rfl 0 (by decide) fl_X2_14 rfl rfl hin rfl (ty := tyX2 0) rfl rfl rfl (Nat.le_of_ble_eq_true rfl) dX2_init_15 (ws' := [(h0, .inr (2, [.ref n1, .null, .null, .int 0])), (n1, .inr (3, [.ref n1b])), (n1b, .inl (Y 0, 20, .inl (rfill 20 (fun _ => 0) (-1))))]) rfl ?_
  refine g_aload_n F dX2_init_18 0 rfl rfl ?_
  refine g_new (ci := 3) F lay_X3 tyX3 tyX3_ok cl_X2_9 it_X3 in_X3 rfl [.null] (by decide +kernel) ⟨Nat.le_of_ble_eq_true rfl, Nat.le_of_ble_eq_true rfl⟩ dX2_init_19 (fun n2 => ?_)
  refine g_dup F dX2_init_22 rfl ?_
  refine g_bipush (v := 20) F dX2_init_23 (by decide) ?_
  refine g_iconst (v := (-1)) F dX2_init_25 (by decide) ?_
  refine g_callI (n := 2) (As := [.int 20, .int (-1)]) F _ [] (kX3_init (a := n2) (n := 20) (x := (-1)) (by decide)) (List.append_nil _).symm (by unfold mOK; decide +kernel) rfl rfl cd_yX3_init ml_X2_11 im_yX3_init in_X3 ⟨Nat.le_of_ble_eq_true rfl, Nat.le_of_ble_eq_true rfl⟩ ⟨Nat.le_of_ble_eq_true rfl, Nat.le_of_ble_eq_true rfl⟩ rfl (Nat.le_of_ble_eq_true rfl) dX2_init_26 ?_
  rintro _ ⟨n2b, rfl⟩
  refine g_putF F lay_X2 tyX2 tyX2_ok nmX2 0 rfl rfl 1 (by decide) fl_X2_20 rfl rfl hin rfl (ty := tyX2 1) rfl rfl rfl (Nat.le_of_ble_eq_true rfl) dX2_init_29 (ws' := [(h0, .inr (2, [.ref n1, .ref n2, .null, .int 0])), (n1, .inr (3, [.ref n1b])), (n1b, .inl (Y 0, 20, .inl (rfill 20 (fun _ => 0) (-1)))), (n2, .inr (3, [.ref n2b])), (n2b, .inl (Y 0, 20, .inl (rfill 20 (fun _ => 0) (-1))))]) rfl ?_
  refine g_aload_n F dX2_init_32 0 rfl rfl ?_
  refine g_new (ci := 3) F lay_X3 tyX3 tyX3_ok cl_X2_9 it_X3 in_X3 rfl [.null] (by decide +kernel) ⟨Nat.le_of_ble_eq_true rfl, Nat.le_of_ble_eq_true rfl⟩ dX2_init_33 (fun n3 => ?_)
  refine g_dup F dX2_init_36 rfl ?_
  refine g_bipush (v := 20) F dX2_init_37 (by decide) ?_
  refine g_iconst (v := (-1)) F dX2_init_39 (by decide) ?_
  refine g_callI (n := 2) (As := [.int 20, .int (-1)]) F _ [] (kX3_init (a := n3) (n := 20) (x := (-1)) (by decide)) (List.append_nil _).symm (by unfold mOK; decide +kernel) rfl rfl cd_yX3_init ml_X2_11 im_yX3_init in_X3 ⟨Nat.le_of_ble_eq_true rfl, Nat.le_of_ble_eq_true rfl⟩ ⟨Nat.le_of_ble_eq_true rfl, Nat.le_of_ble_eq_true rfl⟩ rfl (Nat.le_of_ble_eq_true rfl) dX2_init_40 ?_
  rintro _ ⟨n3b, rfl⟩
  refine g_putF F lay_X2 tyX2 tyX2_ok nmX2 0 rfl rfl 2 (by decide) fl_X2_23 rfl rfl hin rfl (ty := tyX2 2) rfl rfl rfl (Nat.le_of_ble_eq_true rfl) dX2_init_43 (ws' := [(h0, .inr (2, [.ref n1, .ref n2, .ref n3, .int 0])), (n1, .inr (3, [.ref n1b])), (n1b, .inl (Y 0, 20, .inl (rfill 20 (fun _ => 0) (-1)))), (n2, .inr (3, [.ref n2b])), (n2b, .inl (Y 0, 20, .inl (rfill 20 (fun _ => 0) (-1)))), (n3, .inr (3, [.ref n3b])), (n3b, .inl (Y 0, 20, .inl (rfill 20 (fun _ => 0) (-1))))]) rfl ?_
  refine g_widen (k := 6) (n := 63) (Nat.le_of_ble_eq_true rfl) (Nat.le_of_ble_eq_true rfl) ?_
  exact g_nret F hr hlk dX2_init_46 ⟨fun i => ([n1, n1b, n2, n2b, n3, n3b] : List Nat).getD i 0, rfl⟩
theorem dX1_init_0 : decode cX1_init 0 = .ok (.aload_n 0, 1) := by decide +kernel
theorem dX1_init_1 : decode cX1_init 1 = .ok (.invokespecial 3, 3) := by decide +kernel
theorem dX1_init_4 : decode cX1_init 4 = .ok (.aload_n 0, 1) := by decide +kernel
theorem dX1_init_5 : decode cX1_init 5 = .ok (.new 9, 3) := by decide +kernel
theorem dX1_init_8 : decode cX1_init 8 = .ok (.dup, 1) := by decide +kernel
theorem dX1_init_9 : decode cX1_init 9 = .ok (.iconst 2, 1) := by decide +kernel
theorem dX1_init_10 : decode cX1_init 10 = .ok (.iconst 0, 1) := by decide +kernel
theorem dX1_init_11 : decode cX1_init 11 = .ok (.invokespecial 11, 3) := by decide +kernel
theorem dX1_init_14 : decode cX1_init 14 = .ok (.putfield 14, 3) := by decide +kernel
theorem dX1_init_17 : decode cX1_init 17 = .ok (.aload_n 0, 1) := by decide +kernel
theorem dX1_init_18 : decode cX1_init 18 = .ok (.new 9, 3) := by decide +kernel
theorem dX1_init_21 : decode cX1_init 21 = .ok (.dup, 1) := by decide +kernel
theorem dX1_init_22 : decode cX1_init 22 = .ok (.iconst 2, 1) := by decide +kernel
theorem dX1_init_23 : decode cX1_init 23 = .ok (.iconst 5, 1) := by decide +kernel
theorem dX1_init_24 : decode cX1_init 24 = .ok (.invokespecial 11, 3) := by decide +kernel
theorem dX1_init_27 : decode cX1_init 27 = .ok (.putfield 20, 3) := by decide +kernel
theorem dX1_init_30 : decode cX1_init 30 = .ok (.aload_n 0, 1) := by decide +kernel
theorem dX1_init_31 : decode cX1_init 31 = .ok (.new 9, 3) := by decide +kernel
theorem dX1_init_34 : decode cX1_init 34 = .ok (.dup, 1) := by decide +kernel
theorem dX1_init_35 : decode cX1_init 35 = .ok (.iconst 2, 1) := by decide +kernel
theorem dX1_init_36 : decode cX1_init 36 = .ok (.iconst 2, 1) := by decide +kernel
theorem dX1_init_37 : decode cX1_init 37 = .ok (.invokespecial 11, 3) := by decide +kernel
theorem dX1_init_40 : decode cX1_init 40 = .ok (.putfield 23, 3) := by decide +kernel
theorem dX1_init_43 : decode cX1_init 43 = .ok (.return_, 1) := by decide +kernel
def iX1 (Y : Nat → ClassId) (h0 : Nat) (t : Nat → Nat) : va_W := [(h0, .inr (1, [.ref (t 0), .ref (t 2), .ref (t 4)])), (t 0, .inr (3, [.ref (t 1)])), (t 1, .inl (Y 0, 2, .inl (rfill 2 (fun _ => 0) 0))), (t 2, .inr (3, [.ref (t 3)])), (t 3, .inl (Y 0, 2, .inl (rfill 2 (fun _ => 0) 5))), (t 4, .inr (3, [.ref (t 5)])), (t 5, .inl (Y 0, 2, .inl (rfill 2 (fun _ => 0) 2)))]
set_option maxHeartbeats 8000000 in
set_option maxRecDepth 40000 in
theorem kX1_init {l : Launch} {D : va_G} {Y : Nat → ClassId} {h0 : Nat} : CN l yX1_init cX1_init 1 2 43 6 9 D Y [(h0, .inr (1, [.null, .null, .null]))] [.ref h0] (fun w1 => ∃ t, w1 = iX1 Y h0 t) := by
  refine cm_ofn (by decide) (Nat.le_of_ble_eq_true rfl) rfl (fun p e s m args below meth c A F hr hlk hin => ?_)
  show GW p l e { frames := 2, cells := 6, slots := 9, locals := 43 } s m args below meth c D A 1 0 0 (QN below args s D A 6 9 (fun w1 => ∃ t, w1 = iX1 Y h0 t)) [(h0, .inr (1, [.null, .null, .null]))] 0 [(0, .ref h0)] []
  refine g_aload_n F dX1_init_0 0 rfl rfl ?_
  refine g_objInit F ml_X1_3 dX1_init_1 ⟨Nat.le_of_ble_eq_true rfl, Nat.le_of_ble_eq_true rfl⟩ ?_
  refine g_aload_n F dX1_init_4 0 rfl rfl ?_
  refine g_new (ci := 3) F lay_X3 tyX3 tyX3_ok cl_X1_9 it_X3 in_X3 rfl [.null] (by decide +kernel) ⟨Nat.le_of_ble_eq_true rfl, Nat.le_of_ble_eq_true rfl⟩ dX1_init_5 (fun n1 => ?_)
  refine g_dup F dX1_init_8 rfl ?_
  refine g_iconst (v := 2) F dX1_init_9 (by decide) ?_
  refine g_iconst (v := 0) F dX1_init_10 (by decide) ?_
  refine g_callI (n := 2) (As := [.int 2, .int 0]) F _ [] (kX3_init (a := n1) (n := 2) (x := 0) (by decide)) (List.append_nil _).symm (by unfold mOK; decide +kernel) rfl rfl cd_yX3_init ml_X1_11 im_yX3_init in_X3 ⟨Nat.le_of_ble_eq_true rfl, Nat.le_of_ble_eq_true rfl⟩ ⟨Nat.le_of_ble_eq_true rfl, Nat.le_of_ble_eq_true rfl⟩ rfl (Nat.le_of_ble_eq_true rfl) dX1_init_11 ?_
  rintro _ ⟨n1b, rfl⟩
  refine g_putF F lay_X1 tyX1 tyX1_ok nmX1 0 rfl rfl 0 (by decide) fl_X1_14 rfl rfl hin rfl (ty := tyX1 0) rfl rfl rfl (Nat.le_of_ble_eq_true rfl) dX1_init_14 (ws' := [(h0, .inr (1, [.ref n1, .null, .null])), (n1, .inr (3, [.ref n1b])), (n1b, .inl (Y 0, 2, .inl (rfill 2 (fun _ => 0) 0)))]) rfl ?_
  refine g_aload_n F dX1_init_17 0 rfl rfl ?_
  refine g_new (ci := 3) F lay_X3 tyX3 tyX3_ok cl_X1_9 it_X3 in_X3 rfl [.null] (by decide +kernel) ⟨Nat.le_of_ble_eq_true rfl, Nat.le_of_ble_eq_true rfl⟩ dX1_init_18 (fun n2 => ?_)
  refine g_dup F dX1_init_21 rfl ?_
  refine g_iconst (v := 2) F dX1_init_22 (by decide) ?_
  refine g_iconst (v := 5) F dX1_init_23 (by decide) ?_
  refine g_callI (n := 2) (As := [.int 2, .int 5]) F _ [] (kX3_init (a := n2) (n := 2) (x := 5) (by decide)) (List.append_nil _).symm (by unfold mOK; decide +kernel) rfl rfl cd_yX3_init ml_X1_11 im_yX3_init in_X3 ⟨Nat.le_of_ble_eq_true rfl, Nat.le_of_ble_eq_true rfl⟩ ⟨Nat.le_of_ble_eq_true rfl, Nat.le_of_ble_eq_true rfl⟩ rfl (Nat.le_of_ble_eq_true rfl) dX1_init_24 ?_
  rintro _ ⟨n2b, rfl⟩
  refine g_putF F lay_X1 tyX1 tyX1_ok nmX1 0 rfl rfl 1 (by decide) fl_X1_20 rfl rfl hin rfl (ty := tyX1 1) rfl rfl rfl (Nat.le_of_ble_eq_true rfl) dX1_init_27 (ws' := [(h0, .inr (1, [.ref n1, .ref n2, .null])), (n1, .inr (3, [.ref n1b])), (n1b, .inl (Y 0, 2, .inl (rfill 2 (fun _ => 0) 0))), (n2, .inr (3, [.ref n2b])), (n2b, .inl (Y 0, 2, .inl (rfill 2 (fun _ => 0) 5)))]) rfl ?_
  refine g_aload_n F dX1_init_30 0 rfl rfl ?_
  refine g_new (ci := 3) F lay_X3 tyX3 tyX3_ok cl_X1_9 it_X3 in_X3 rfl [.null] (by decide +kernel) ⟨Nat.le_of_ble_eq_true rfl, Nat.le_of_ble_eq_true rfl⟩ dX1_init_31 (fun n3 => ?_)
  refine g_dup F dX1_init_34 rfl ?_
  refine g_iconst (v := 2) F dX1_init_35 (by decide) ?_
  refine g_iconst (v := 2) F dX1_init_36 (by decide) ?_
  refine g_callI (n := 2) (As := [.int 2, .int 2]) F _ [] (kX3_init (a := n3) (n := 2) (x := 2) (by decide)) (List.append_nil _).symm (by unfold mOK; decide +kernel) rfl rfl cd_yX3_init ml_X1_11 im_yX3_init in_X3 ⟨Nat.le_of_ble_eq_true rfl, Nat.le_of_ble_eq_true rfl⟩ ⟨Nat.le_of_ble_eq_true rfl, Nat.le_of_ble_eq_true rfl⟩ rfl (Nat.le_of_ble_eq_true rfl) dX1_init_37 ?_
  rintro _ ⟨n3b, rfl⟩
  refine g_putF F lay_X1 tyX1 tyX1_ok nmX1 0 rfl rfl 2 (by decide) fl_X1_23 rfl rfl hin rfl (ty := tyX1 2) rfl rfl rfl (Nat.le_of_ble_eq_true rfl) dX1_init_40 (ws' := [(h0, .inr (1, [.ref n1, .ref n2, .ref n3])), (n1, .inr (3, [.ref n1b])), (n1b, .inl (Y 0, 2, .inl (rfill 2 (fun _ => 0) 0))), (n2, .inr (3, [.ref n2b])), (n2b, .inl (Y 0, 2, .inl (rfill 2 (fun _ => 0) 5))), (n3, .inr (3, [.ref n3b])), (n3b, .inl (Y 0, 2, .inl (rfill 2 (fun _ => 0) 2)))]) rfl ?_
  refine g_widen (k := 6) (n := 9) (Nat.le_of_ble_eq_true rfl) (Nat.le_of_ble_eq_true rfl) ?_
  exact g_nret F hr hlk dX1_init_43 ⟨fun i => ([n1, n1b, n2, n2b, n3, n3b] : List Nat).getD i 0, rfl⟩
def rin (k : Nat) : Int32 := match k with
  | 5 => 2
  | 6 => -1
  | 8 => -1
  | 13 => -1
  | 15 => -1
  | 16 => -1
  | 17 => -1
  | 19 => 5
  | 20 => 2
  | _ => 0
def uI : St := (fun k => rfill (rl k) (fun _ => 0) (rin k), fun j => match j with
  | 3 => 400
  | 4 => 60
  | 5 => 900
  | _ => 0)
theorem dX6_init_0 : decode cX6_init 0 = .ok (.aload_n 0, 1) := by decide +kernel
theorem dX6_init_1 : decode cX6_init 1 = .ok (.invokespecial 1, 3) := by decide +kernel
theorem dX6_init_4 : decode cX6_init 4 = .ok (.aload_n 0, 1) := by decide +kernel
theorem dX6_init_5 : decode cX6_init 5 = .ok (.new 7, 3) := by decide +kernel
theorem dX6_init_8 : decode cX6_init 8 = .ok (.dup, 1) := by decide +kernel
theorem dX6_init_9 : decode cX6_init 9 = .ok (.invokespecial 9, 3) := by decide +kernel
theorem dX6_init_12 : decode cX6_init 12 = .ok (.putfield 10, 3) := by decide +kernel
theorem dX6_init_15 : decode cX6_init 15 = .ok (.aload_n 0, 1) := by decide +kernel
theorem dX6_init_16 : decode cX6_init 16 = .ok (.new 16, 3) := by decide +kernel
theorem dX6_init_19 : decode cX6_init 19 = .ok (.dup, 1) := by decide +kernel
theorem dX6_init_20 : decode cX6_init 20 = .ok (.invokespecial 18, 3) := by decide +kernel
theorem dX6_init_23 : decode cX6_init 23 = .ok (.putfield 19, 3) := by decide +kernel
theorem dX6_init_26 : decode cX6_init 26 = .ok (.aload_n 0, 1) := by decide +kernel
theorem dX6_init_27 : decode cX6_init 27 = .ok (.new 23, 3) := by decide +kernel
theorem dX6_init_30 : decode cX6_init 30 = .ok (.dup, 1) := by decide +kernel
theorem dX6_init_31 : decode cX6_init 31 = .ok (.invokespecial 25, 3) := by decide +kernel
theorem dX6_init_34 : decode cX6_init 34 = .ok (.putfield 26, 3) := by decide +kernel
theorem dX6_init_37 : decode cX6_init 37 = .ok (.aload_n 0, 1) := by decide +kernel
theorem dX6_init_38 : decode cX6_init 38 = .ok (.new 30, 3) := by decide +kernel
theorem dX6_init_41 : decode cX6_init 41 = .ok (.dup, 1) := by decide +kernel
theorem dX6_init_42 : decode cX6_init 42 = .ok (.invokespecial 32, 3) := by decide +kernel
theorem dX6_init_45 : decode cX6_init 45 = .ok (.putfield 33, 3) := by decide +kernel
theorem dX6_init_48 : decode cX6_init 48 = .ok (.aload_n 0, 1) := by decide +kernel
theorem dX6_init_49 : decode cX6_init 49 = .ok (.new 37, 3) := by decide +kernel
theorem dX6_init_52 : decode cX6_init 52 = .ok (.dup, 1) := by decide +kernel
theorem dX6_init_53 : decode cX6_init 53 = .ok (.invokespecial 39, 3) := by decide +kernel
theorem dX6_init_56 : decode cX6_init 56 = .ok (.putfield 40, 3) := by decide +kernel
theorem dX6_init_59 : decode cX6_init 59 = .ok (.aload_n 0, 1) := by decide +kernel
theorem dX6_init_60 : decode cX6_init 60 = .ok (.new 44, 3) := by decide +kernel
theorem dX6_init_63 : decode cX6_init 63 = .ok (.dup, 1) := by decide +kernel
theorem dX6_init_64 : decode cX6_init 64 = .ok (.bipush 10, 2) := by decide +kernel
theorem dX6_init_66 : decode cX6_init 66 = .ok (.iconst 0, 1) := by decide +kernel
theorem dX6_init_67 : decode cX6_init 67 = .ok (.invokespecial 46, 3) := by decide +kernel
theorem dX6_init_70 : decode cX6_init 70 = .ok (.putfield 49, 3) := by decide +kernel
theorem dX6_init_73 : decode cX6_init 73 = .ok (.aload_n 0, 1) := by decide +kernel
theorem dX6_init_74 : decode cX6_init 74 = .ok (.sipush 400, 3) := by decide +kernel
theorem dX6_init_77 : decode cX6_init 77 = .ok (.putfield 53, 3) := by decide +kernel
theorem dX6_init_80 : decode cX6_init 80 = .ok (.aload_n 0, 1) := by decide +kernel
theorem dX6_init_81 : decode cX6_init 81 = .ok (.bipush 60, 2) := by decide +kernel
theorem dX6_init_83 : decode cX6_init 83 = .ok (.putfield 57, 3) := by decide +kernel
theorem dX6_init_86 : decode cX6_init 86 = .ok (.aload_n 0, 1) := by decide +kernel
theorem dX6_init_87 : decode cX6_init 87 = .ok (.sipush 900, 3) := by decide +kernel
theorem dX6_init_90 : decode cX6_init 90 = .ok (.putfield 60, 3) := by decide +kernel
theorem dX6_init_93 : decode cX6_init 93 = .ok (.return_, 1) := by decide +kernel
set_option maxHeartbeats 8000000 in
set_option maxRecDepth 40000 in
theorem kX6_init {l : Launch} {D : va_G} {Y : Nat → ClassId} {h0 : Nat} : CN l yX6_init cX6_init 1 3 63 49 760 D Y [(h0, .inr (6, [.null, .null, .null, .null, .null, .null, .int 0, .int 0, .int 0, .int 0, .int 0, .int 0]))] [.ref h0] (fun w1 => ∃ q, q 0 = h0 ∧ w1 = wC Y q uI) := by
  refine cm_ofn (by decide) (Nat.le_of_ble_eq_true rfl) rfl (fun p e s m args below meth c A F hr hlk hin => ?_)
  show GW p l e { frames := 3, cells := 49, slots := 760, locals := 63 } s m args below meth c D A 1 0 0 (QN below args s D A 49 760 (fun w1 => ∃ q, q 0 = h0 ∧ w1 = wC Y q uI)) [(h0, .inr (6, [.null, .null, .null, .null, .null, .null, .int 0, .int 0, .int 0, .int 0, .int 0, .int 0]))] 0 [(0, .ref h0)] []
  refine g_aload_n F dX6_init_0 0 rfl rfl ?_
  refine g_objInit F ml_X6_1 dX6_init_1 ⟨Nat.le_of_ble_eq_true rfl, Nat.le_of_ble_eq_true rfl⟩ ?_
  refine g_aload_n F dX6_init_4 0 rfl rfl ?_
  refine g_new (ci := 0) F lay_X0 tyX0 tyX0_ok cl_X6_7 it_X0 in_X0 rfl [.null, .null, .null, .null, .null, .null, .null, .int 0] (by decide +kernel) ⟨Nat.le_of_ble_eq_true rfl, Nat.le_of_ble_eq_true rfl⟩ dX6_init_5 (fun n1 => ?_)
  refine g_dup F dX6_init_8 rfl ?_
  refine g_callI (n := 0) (As := []) F _ [] (kX0_init (h0 := n1)) (List.append_nil _).symm (by unfold mOK; decide +kernel) rfl rfl cd_yX0_init ml_X6_9 im_yX0_init in_X0 ⟨Nat.le_of_ble_eq_true rfl, Nat.le_of_ble_eq_true rfl⟩ ⟨Nat.le_of_ble_eq_true rfl, Nat.le_of_ble_eq_true rfl⟩ rfl (Nat.le_of_ble_eq_true rfl) dX6_init_9 ?_
  rintro _ ⟨tX0, rfl⟩
  refine g_putF F lay_X6 tyX6 tyX6_ok nmX6 0 rfl rfl 0 (by decide) fl_X6_10 rfl rfl hin rfl (ty := tyX6 0) rfl rfl rfl (Nat.le_of_ble_eq_true rfl) dX6_init_12 (ws' := [(h0, .inr (6, [.ref n1, .null, .null, .null, .null, .null, .int 0, .int 0, .int 0, .int 0, .int 0, .int 0])), (n1, .inr (0, [.ref (tX0 0), .ref (tX0 2), .ref (tX0 4), .ref (tX0 6), .ref (tX0 8), .ref (tX0 10), .ref (tX0 12), .int 0])), (tX0 0, .inr (3, [.ref (tX0 1)])), (tX0 1, .inl (Y 0, 60, .inl (rfill 60 (fun _ => 0) 0))), (tX0 2, .inr (3, [.ref (tX0 3)])), (tX0 3, .inl (Y 0, 60, .inl (rfill 60 (fun _ => 0) 0))), (tX0 4, .inr (3, [.ref (tX0 5)])), (tX0 5, .inl (Y 0, 60, .inl (rfill 60 (fun _ => 0) 0))), (tX0 6, .inr (3, [.ref (tX0 7)])), (tX0 7, .inl (Y 0, 60, .inl (rfill 60 (fun _ => 0) 0))), (tX0 8, .inr (3, [.ref (tX0 9)])), (tX0 9, .inl (Y 0, 60, .inl (rfill 60 (fun _ => 0) 0))), (tX0 10, .inr (3, [.ref (tX0 11)])), (tX0 11, .inl (Y 0, 60, .inl (rfill 60 (fun _ => 0) 2))), (tX0 12, .inr (3, [.ref (tX0 13)])), (tX0 13, .inl (Y 0, 60, .inl (rfill 60 (fun _ => 0) (-1))))]) rfl ?_
  refine g_aload_n F dX6_init_15 0 rfl rfl ?_
  refine g_new (ci := 5) F lay_X5 tyX5 tyX5_ok cl_X6_16 it_X5 in_X5 rfl [.null, .null] (by decide +kernel) ⟨Nat.le_of_ble_eq_true rfl, Nat.le_of_ble_eq_true rfl⟩ dX6_init_16 (fun n2 => ?_)
  refine g_dup F dX6_init_19 rfl ?_
  refine g_callI (n := 0) (As := []) F _ [] (kX5_init (h0 := n2)) (List.append_nil _).symm (by unfold mOK; decide +kernel) rfl rfl cd_yX5_init ml_X6_18 im_yX5_init in_X5 ⟨Nat.le_of_ble_eq_true rfl, Nat.le_of_ble_eq_true rfl⟩ ⟨Nat.le_of_ble_eq_true rfl, Nat.le_of_ble_eq_true rfl⟩ rfl (Nat.le_of_ble_eq_true rfl) dX6_init_20 ?_
  rintro _ ⟨tX5, rfl⟩
  refine g_putF F lay_X6 tyX6 tyX6_ok nmX6 0 rfl rfl 1 (by decide) fl_X6_19 rfl rfl hin rfl (ty := tyX6 1) rfl rfl rfl (Nat.le_of_ble_eq_true rfl) dX6_init_23 (ws' := [(h0, .inr (6, [.ref n1, .ref n2, .null, .null, .null, .null, .int 0, .int 0, .int 0, .int 0, .int 0, .int 0])), (n1, .inr (0, [.ref (tX0 0), .ref (tX0 2), .ref (tX0 4), .ref (tX0 6), .ref (tX0 8), .ref (tX0 10), .ref (tX0 12), .int 0])), (tX0 0, .inr (3, [.ref (tX0 1)])), (tX0 1, .inl (Y 0, 60, .inl (rfill 60 (fun _ => 0) 0))), (tX0 2, .inr (3, [.ref (tX0 3)])), (tX0 3, .inl (Y 0, 60, .inl (rfill 60 (fun _ => 0) 0))), (tX0 4, .inr (3, [.ref (tX0 5)])), (tX0 5, .inl (Y 0, 60, .inl (rfill 60 (fun _ => 0) 0))), (tX0 6, .inr (3, [.ref (tX0 7)])), (tX0 7, .inl (Y 0, 60, .inl (rfill 60 (fun _ => 0) 0))), (tX0 8, .inr (3, [.ref (tX0 9)])), (tX0 9, .inl (Y 0, 60, .inl (rfill 60 (fun _ => 0) 0))), (tX0 10, .inr (3, [.ref (tX0 11)])), (tX0 11, .inl (Y 0, 60, .inl (rfill 60 (fun _ => 0) 2))), (tX0 12, .inr (3, [.ref (tX0 13)])), (tX0 13, .inl (Y 0, 60, .inl (rfill 60 (fun _ => 0) (-1)))), (n2, .inr (5, [.ref (tX5 0), .ref (tX5 2)])), (tX5 0, .inr (3, [.ref (tX5 1)])), (tX5 1, .inl (Y 0, 10, .inl (rfill 10 (fun _ => 0) 0))), (tX5 2, .inr (3, [.ref (tX5 3)])), (tX5 3, .inl (Y 0, 40, .inl (rfill 40 (fun _ => 0) (-1))))]) rfl ?_
  refine g_aload_n F dX6_init_26 0 rfl rfl ?_
  refine g_new (ci := 4) F lay_X4 tyX4 tyX4_ok cl_X6_23 it_X4 in_X4 rfl [.null, .null, .null, .null, .int 0, .null, .null] (by decide +kernel) ⟨Nat.le_of_ble_eq_true rfl, Nat.le_of_ble_eq_true rfl⟩ dX6_init_27 (fun n3 => ?_)
  refine g_dup F dX6_init_30 rfl ?_
  refine g_callI (n := 0) (As := []) F _ [] (kX4_init (h0 := n3)) (List.append_nil _).symm (by unfold mOK; decide +kernel) rfl rfl cd_yX4_init ml_X6_25 im_yX4_init in_X4 ⟨Nat.le_of_ble_eq_true rfl, Nat.le_of_ble_eq_true rfl⟩ ⟨Nat.le_of_ble_eq_true rfl, Nat.le_of_ble_eq_true rfl⟩ rfl (Nat.le_of_ble_eq_true rfl) dX6_init_31 ?_
  rintro _ ⟨tX4, rfl⟩
  refine g_putF F lay_X6 tyX6 tyX6_ok nmX6 0 rfl rfl 2 (by decide) fl_X6_26 rfl rfl hin rfl (ty := tyX6 2) rfl rfl rfl (Nat.le_of_ble_eq_true rfl) dX6_init_34 (ws' := [(h0, .inr (6, [.ref n1, .ref n2, .ref n3, .null, .null, .null, .int 0, .int 0, .int 0, .int 0, .int 0, .int 0])), (n1, .inr (0, [.ref (tX0 0), .ref (tX0 2), .ref (tX0 4), .ref (tX0 6), .ref (tX0 8), .ref (tX0 10), .ref (tX0 12), .int 0])), (tX0 0, .inr (3, [.ref (tX0 1)])), (tX0 1, .inl (Y 0, 60, .inl (rfill 60 (fun _ => 0) 0))), (tX0 2, .inr (3, [.ref (tX0 3)])), (tX0 3, .inl (Y 0, 60, .inl (rfill 60 (fun _ => 0) 0))), (tX0 4, .inr (3, [.ref (tX0 5)])), (tX0 5, .inl (Y 0, 60, .inl (rfill 60 (fun _ => 0) 0))), (tX0 6, .inr (3, [.ref (tX0 7)])), (tX0 7, .inl (Y 0, 60, .inl (rfill 60 (fun _ => 0) 0))), (tX0 8, .inr (3, [.ref (tX0 9)])), (tX0 9, .inl (Y 0, 60, .inl (rfill 60 (fun _ => 0) 0))), (tX0 10, .inr (3, [.ref (tX0 11)])), (tX0 11, .inl (Y 0, 60, .inl (rfill 60 (fun _ => 0) 2))), (tX0 12, .inr (3, [.ref (tX0 13)])), (tX0 13, .inl (Y 0, 60, .inl (rfill 60 (fun _ => 0) (-1)))), (n2, .inr (5, [.ref (tX5 0), .ref (tX5 2)])), (tX5 0, .inr (3, [.ref (tX5 1)])), (tX5 1, .inl (Y 0, 10, .inl (rfill 10 (fun _ => 0) 0))), (tX5 2, .inr (3, [.ref (tX5 3)])), (tX5 3, .inl (Y 0, 40, .inl (rfill 40 (fun _ => 0) (-1)))), (n3, .inr (4, [.ref (tX4 0), .ref (tX4 2), .ref (tX4 4), .ref (tX4 6), .int 0, .ref (tX4 8), .ref (tX4 10)])), (tX4 0, .inr (3, [.ref (tX4 1)])), (tX4 1, .inl (Y 0, 6, .inl (rfill 6 (fun _ => 0) 0))), (tX4 2, .inr (3, [.ref (tX4 3)])), (tX4 3, .inl (Y 0, 6, .inl (rfill 6 (fun _ => 0) 0))), (tX4 4, .inr (3, [.ref (tX4 5)])), (tX4 5, .inl (Y 0, 6, .inl (rfill 6 (fun _ => 0) 0))), (tX4 6, .inr (3, [.ref (tX4 7)])), (tX4 7, .inl (Y 0, 6, .inl (rfill 6 (fun _ => 0) 0))), (tX4 8, .inr (3, [.ref (tX4 9)])), (tX4 9, .inl (Y 0, 72, .inl (rfill 72 (fun _ => 0) (-1)))), (tX4 10, .inr (3, [.ref (tX4 11)])), (tX4 11, .inl (Y 0, 72, .inl (rfill 72 (fun _ => 0) 0)))]) rfl ?_
  refine g_aload_n F dX6_init_37 0 rfl rfl ?_
  refine g_new (ci := 2) F lay_X2 tyX2 tyX2_ok cl_X6_30 it_X2 in_X2 rfl [.null, .null, .null, .int 0] (by decide +kernel) ⟨Nat.le_of_ble_eq_true rfl, Nat.le_of_ble_eq_true rfl⟩ dX6_init_38 (fun n4 => ?_)
  refine g_dup F dX6_init_41 rfl ?_
  refine g_callI (n := 0) (As := []) F _ [] (kX2_init (h0 := n4)) (List.append_nil _).symm (by unfold mOK; decide +kernel) rfl rfl cd_yX2_init ml_X6_32 im_yX2_init in_X2 ⟨Nat.le_of_ble_eq_true rfl, Nat.le_of_ble_eq_true rfl⟩ ⟨Nat.le_of_ble_eq_true rfl, Nat.le_of_ble_eq_true rfl⟩ rfl (Nat.le_of_ble_eq_true rfl) dX6_init_42 ?_
  rintro _ ⟨tX2, rfl⟩
  refine g_putF F lay_X6 tyX6 tyX6_ok nmX6 0 rfl rfl 3 (by decide) fl_X6_33 rfl rfl hin rfl (ty := tyX6 3) rfl rfl rfl (Nat.le_of_ble_eq_true rfl) dX6_init_45 (ws' := [(h0, .inr (6, [.ref n1, .ref n2, .ref n3, .ref n4, .null, .null, .int 0, .int 0, .int 0, .int 0, .int 0, .int 0])), (n1, .inr (0, [.ref (tX0 0), .ref (tX0 2), .ref (tX0 4), .ref (tX0 6), .ref (tX0 8), .ref (tX0 10), .ref (tX0 12), .int 0])), (tX0 0, .inr (3, [.ref (tX0 1)])), (tX0 1, .inl (Y 0, 60, .inl (rfill 60 (fun _ => 0) 0))), (tX0 2, .inr (3, [.ref (tX0 3)])), (tX0 3, .inl (Y 0, 60, .inl (rfill 60 (fun _ => 0) 0))), (tX0 4, .inr (3, [.ref (tX0 5)])), (tX0 5, .inl (Y 0, 60, .inl (rfill 60 (fun _ => 0) 0))), (tX0 6, .inr (3, [.ref (tX0 7)])), (tX0 7, .inl (Y 0, 60, .inl (rfill 60 (fun _ => 0) 0))), (tX0 8, .inr (3, [.ref (tX0 9)])), (tX0 9, .inl (Y 0, 60, .inl (rfill 60 (fun _ => 0) 0))), (tX0 10, .inr (3, [.ref (tX0 11)])), (tX0 11, .inl (Y 0, 60, .inl (rfill 60 (fun _ => 0) 2))), (tX0 12, .inr (3, [.ref (tX0 13)])), (tX0 13, .inl (Y 0, 60, .inl (rfill 60 (fun _ => 0) (-1)))), (n2, .inr (5, [.ref (tX5 0), .ref (tX5 2)])), (tX5 0, .inr (3, [.ref (tX5 1)])), (tX5 1, .inl (Y 0, 10, .inl (rfill 10 (fun _ => 0) 0))), (tX5 2, .inr (3, [.ref (tX5 3)])), (tX5 3, .inl (Y 0, 40, .inl (rfill 40 (fun _ => 0) (-1)))), (n3, .inr (4, [.ref (tX4 0), .ref (tX4 2), .ref (tX4 4), .ref (tX4 6), .int 0, .ref (tX4 8), .ref (tX4 10)])), (tX4 0, .inr (3, [.ref (tX4 1)])), (tX4 1, .inl (Y 0, 6, .inl (rfill 6 (fun _ => 0) 0))), (tX4 2, .inr (3, [.ref (tX4 3)])), (tX4 3, .inl (Y 0, 6, .inl (rfill 6 (fun _ => 0) 0))), (tX4 4, .inr (3, [.ref (tX4 5)])), (tX4 5, .inl (Y 0, 6, .inl (rfill 6 (fun _ => 0) 0))), (tX4 6, .inr (3, [.ref (tX4 7)])), (tX4 7, .inl (Y 0, 6, .inl (rfill 6 (fun _ => 0) 0))), (tX4 8, .inr (3, [.ref (tX4 9)])), (tX4 9, .inl (Y 0, 72, .inl (rfill 72 (fun _ => 0) (-1)))), (tX4 10, .inr (3, [.ref (tX4 11)])), (tX4 11, .inl (Y 0, 72, .inl (rfill 72 (fun _ => 0) 0))), (n4, .inr (2, [.ref (tX2 0), .ref (tX2 2), .ref (tX2 4), .int 0])), (tX2 0, .inr (3, [.ref (tX2 1)])), (tX2 1, .inl (Y 0, 20, .inl (rfill 20 (fun _ => 0) (-1)))), (tX2 2, .inr (3, [.ref (tX2 3)])), (tX2 3, .inl (Y 0, 20, .inl (rfill 20 (fun _ => 0) (-1)))), (tX2 4, .inr (3, [.ref (tX2 5)])), (tX2 5, .inl (Y 0, 20, .inl (rfill 20 (fun _ => 0) (-1))))]) rfl ?_
  refine g_aload_n F dX6_init_48 0 rfl rfl ?_
  refine g_new (ci := 1) F lay_X1 tyX1 tyX1_ok cl_X6_37 it_X1 in_X1 rfl [.null, .null, .null] (by decide +kernel) ⟨Nat.le_of_ble_eq_true rfl, Nat.le_of_ble_eq_true rfl⟩ dX6_init_49 (fun n5 => ?_)
  refine g_dup F dX6_init_52 rfl ?_
  refine g_callI (n := 0) (As := []) F _ [] (kX1_init (h0 := n5)) (List.append_nil _).symm (by unfold mOK; decide +kernel) rfl rfl cd_yX1_init ml_X6_39 im_yX1_init in_X1 ⟨Nat.le_of_ble_eq_true rfl, Nat.le_of_ble_eq_true rfl⟩ ⟨Nat.le_of_ble_eq_true rfl, Nat.le_of_ble_eq_true rfl⟩ rfl (Nat.le_of_ble_eq_true rfl) dX6_init_53 ?_
  rintro _ ⟨tX1, rfl⟩
  refine g_putF F lay_X6 tyX6 tyX6_ok nmX6 0 rfl rfl 4 (by decide) fl_X6_40 rfl rfl hin rfl (ty := tyX6 4) rfl rfl rfl (Nat.le_of_ble_eq_true rfl) dX6_init_56 (ws' := [(h0, .inr (6, [.ref n1, .ref n2, .ref n3, .ref n4, .ref n5, .null, .int 0, .int 0, .int 0, .int 0, .int 0, .int 0])), (n1, .inr (0, [.ref (tX0 0), .ref (tX0 2), .ref (tX0 4), .ref (tX0 6), .ref (tX0 8), .ref (tX0 10), .ref (tX0 12), .int 0])), (tX0 0, .inr (3, [.ref (tX0 1)])), (tX0 1, .inl (Y 0, 60, .inl (rfill 60 (fun _ => 0) 0))), (tX0 2, .inr (3, [.ref (tX0 3)])), (tX0 3, .inl (Y 0, 60, .inl (rfill 60 (fun _ => 0) 0))), (tX0 4, .inr (3, [.ref (tX0 5)])), (tX0 5, .inl (Y 0, 60, .inl (rfill 60 (fun _ => 0) 0))), (tX0 6, .inr (3, [.ref (tX0 7)])), (tX0 7, .inl (Y 0, 60, .inl (rfill 60 (fun _ => 0) 0))), (tX0 8, .inr (3, [.ref (tX0 9)])), (tX0 9, .inl (Y 0, 60, .inl (rfill 60 (fun _ => 0) 0))), (tX0 10, .inr (3, [.ref (tX0 11)])), (tX0 11, .inl (Y 0, 60, .inl (rfill 60 (fun _ => 0) 2))), (tX0 12, .inr (3, [.ref (tX0 13)])), (tX0 13, .inl (Y 0, 60, .inl (rfill 60 (fun _ => 0) (-1)))), (n2, .inr (5, [.ref (tX5 0), .ref (tX5 2)])), (tX5 0, .inr (3, [.ref (tX5 1)])), (tX5 1, .inl (Y 0, 10, .inl (rfill 10 (fun _ => 0) 0))), (tX5 2, .inr (3, [.ref (tX5 3)])), (tX5 3, .inl (Y 0, 40, .inl (rfill 40 (fun _ => 0) (-1)))), (n3, .inr (4, [.ref (tX4 0), .ref (tX4 2), .ref (tX4 4), .ref (tX4 6), .int 0, .ref (tX4 8), .ref (tX4 10)])), (tX4 0, .inr (3, [.ref (tX4 1)])), (tX4 1, .inl (Y 0, 6, .inl (rfill 6 (fun _ => 0) 0))), (tX4 2, .inr (3, [.ref (tX4 3)])), (tX4 3, .inl (Y 0, 6, .inl (rfill 6 (fun _ => 0) 0))), (tX4 4, .inr (3, [.ref (tX4 5)])), (tX4 5, .inl (Y 0, 6, .inl (rfill 6 (fun _ => 0) 0))), (tX4 6, .inr (3, [.ref (tX4 7)])), (tX4 7, .inl (Y 0, 6, .inl (rfill 6 (fun _ => 0) 0))), (tX4 8, .inr (3, [.ref (tX4 9)])), (tX4 9, .inl (Y 0, 72, .inl (rfill 72 (fun _ => 0) (-1)))), (tX4 10, .inr (3, [.ref (tX4 11)])), (tX4 11, .inl (Y 0, 72, .inl (rfill 72 (fun _ => 0) 0))), (n4, .inr (2, [.ref (tX2 0), .ref (tX2 2), .ref (tX2 4), .int 0])), (tX2 0, .inr (3, [.ref (tX2 1)])), (tX2 1, .inl (Y 0, 20, .inl (rfill 20 (fun _ => 0) (-1)))), (tX2 2, .inr (3, [.ref (tX2 3)])), (tX2 3, .inl (Y 0, 20, .inl (rfill 20 (fun _ => 0) (-1)))), (tX2 4, .inr (3, [.ref (tX2 5)])), (tX2 5, .inl (Y 0, 20, .inl (rfill 20 (fun _ => 0) (-1)))), (n5, .inr (1, [.ref (tX1 0), .ref (tX1 2), .ref (tX1 4)])), (tX1 0, .inr (3, [.ref (tX1 1)])), (tX1 1, .inl (Y 0, 2, .inl (rfill 2 (fun _ => 0) 0))), (tX1 2, .inr (3, [.ref (tX1 3)])), (tX1 3, .inl (Y 0, 2, .inl (rfill 2 (fun _ => 0) 5))), (tX1 4, .inr (3, [.ref (tX1 5)])), (tX1 5, .inl (Y 0, 2, .inl (rfill 2 (fun _ => 0) 2)))]) rfl ?_
  refine g_aload_n F dX6_init_59 0 rfl rfl ?_
  refine g_new (ci := 3) F lay_X3 tyX3 tyX3_ok cl_X6_44 it_X3 in_X3 rfl [.null] (by decide +kernel) ⟨Nat.le_of_ble_eq_true rfl, Nat.le_of_ble_eq_true rfl⟩ dX6_init_60 (fun n6 => ?_)
  refine g_dup F dX6_init_63 rfl ?_
  refine g_bipush (v := 10) F dX6_init_64 (by decide) ?_
  refine g_iconst (v := 0) F dX6_init_66 (by decide) ?_
  refine g_callI (n := 2) (As := [.int 10, .int 0]) F _ [] (kX3_init (a := n6) (n := 10) (x := 0) (by decide)) (List.append_nil _).symm (by unfold mOK; decide +kernel) rfl rfl cd_yX3_init ml_X6_46 im_yX3_init in_X3 ⟨Nat.le_of_ble_eq_true rfl, Nat.le_of_ble_eq_true rfl⟩ ⟨Nat.le_of_ble_eq_true rfl, Nat.le_of_ble_eq_true rfl⟩ rfl (Nat.le_of_ble_eq_true rfl) dX6_init_67 ?_
  rintro _ ⟨n6b, rfl⟩
  refine g_putF F lay_X6 tyX6 tyX6_ok nmX6 0 rfl rfl 5 (by decide) fl_X6_49 rfl rfl hin rfl (ty := tyX6 5) rfl rfl rfl (Nat.le_of_ble_eq_true rfl) dX6_init_70 (ws' := [(h0, .inr (6, [.ref n1, .ref n2, .ref n3, .ref n4, .ref n5, .ref n6, .int 0, .int 0, .int 0, .int 0, .int 0, .int 0])), (n1, .inr (0, [.ref (tX0 0), .ref (tX0 2), .ref (tX0 4), .ref (tX0 6), .ref (tX0 8), .ref (tX0 10), .ref (tX0 12), .int 0])), (tX0 0, .inr (3, [.ref (tX0 1)])), (tX0 1, .inl (Y 0, 60, .inl (rfill 60 (fun _ => 0) 0))), (tX0 2, .inr (3, [.ref (tX0 3)])), (tX0 3, .inl (Y 0, 60, .inl (rfill 60 (fun _ => 0) 0))), (tX0 4, .inr (3, [.ref (tX0 5)])), (tX0 5, .inl (Y 0, 60, .inl (rfill 60 (fun _ => 0) 0))), (tX0 6, .inr (3, [.ref (tX0 7)])), (tX0 7, .inl (Y 0, 60, .inl (rfill 60 (fun _ => 0) 0))), (tX0 8, .inr (3, [.ref (tX0 9)])), (tX0 9, .inl (Y 0, 60, .inl (rfill 60 (fun _ => 0) 0))), (tX0 10, .inr (3, [.ref (tX0 11)])), (tX0 11, .inl (Y 0, 60, .inl (rfill 60 (fun _ => 0) 2))), (tX0 12, .inr (3, [.ref (tX0 13)])), (tX0 13, .inl (Y 0, 60, .inl (rfill 60 (fun _ => 0) (-1)))), (n2, .inr (5, [.ref (tX5 0), .ref (tX5 2)])), (tX5 0, .inr (3, [.ref (tX5 1)])), (tX5 1, .inl (Y 0, 10, .inl (rfill 10 (fun _ => 0) 0))), (tX5 2, .inr (3, [.ref (tX5 3)])), (tX5 3, .inl (Y 0, 40, .inl (rfill 40 (fun _ => 0) (-1)))), (n3, .inr (4, [.ref (tX4 0), .ref (tX4 2), .ref (tX4 4), .ref (tX4 6), .int 0, .ref (tX4 8), .ref (tX4 10)])), (tX4 0, .inr (3, [.ref (tX4 1)])), (tX4 1, .inl (Y 0, 6, .inl (rfill 6 (fun _ => 0) 0))), (tX4 2, .inr (3, [.ref (tX4 3)])), (tX4 3, .inl (Y 0, 6, .inl (rfill 6 (fun _ => 0) 0))), (tX4 4, .inr (3, [.ref (tX4 5)])), (tX4 5, .inl (Y 0, 6, .inl (rfill 6 (fun _ => 0) 0))), (tX4 6, .inr (3, [.ref (tX4 7)])), (tX4 7, .inl (Y 0, 6, .inl (rfill 6 (fun _ => 0) 0))), (tX4 8, .inr (3, [.ref (tX4 9)])), (tX4 9, .inl (Y 0, 72, .inl (rfill 72 (fun _ => 0) (-1)))), (tX4 10, .inr (3, [.ref (tX4 11)])), (tX4 11, .inl (Y 0, 72, .inl (rfill 72 (fun _ => 0) 0))), (n4, .inr (2, [.ref (tX2 0), .ref (tX2 2), .ref (tX2 4), .int 0])), (tX2 0, .inr (3, [.ref (tX2 1)])), (tX2 1, .inl (Y 0, 20, .inl (rfill 20 (fun _ => 0) (-1)))), (tX2 2, .inr (3, [.ref (tX2 3)])), (tX2 3, .inl (Y 0, 20, .inl (rfill 20 (fun _ => 0) (-1)))), (tX2 4, .inr (3, [.ref (tX2 5)])), (tX2 5, .inl (Y 0, 20, .inl (rfill 20 (fun _ => 0) (-1)))), (n5, .inr (1, [.ref (tX1 0), .ref (tX1 2), .ref (tX1 4)])), (tX1 0, .inr (3, [.ref (tX1 1)])), (tX1 1, .inl (Y 0, 2, .inl (rfill 2 (fun _ => 0) 0))), (tX1 2, .inr (3, [.ref (tX1 3)])), (tX1 3, .inl (Y 0, 2, .inl (rfill 2 (fun _ => 0) 5))), (tX1 4, .inr (3, [.ref (tX1 5)])), (tX1 5, .inl (Y 0, 2, .inl (rfill 2 (fun _ => 0) 2))), (n6, .inr (3, [.ref n6b])), (n6b, .inl (Y 0, 10, .inl (rfill 10 (fun _ => 0) 0)))]) rfl ?_
  refine g_aload_n F dX6_init_73 0 rfl rfl ?_
  refine g_sipush (v := 400) F dX6_init_74 (by decide) ?_
  refine g_put F lay_X6 tyX6 tyX6_ok nmX6 0 rfl rfl 9 (by decide) fl_X6_53 rfl rfl (ty := .int) rfl rfl rfl (Nat.le_of_ble_eq_true rfl) dX6_init_77 (ws' := [(h0, .inr (6, [.ref n1, .ref n2, .ref n3, .ref n4, .ref n5, .ref n6, .int 0, .int 0, .int 0, .int 400, .int 0, .int 0])), (n1, .inr (0, [.ref (tX0 0), .ref (tX0 2), .ref (tX0 4), .ref (tX0 6), .ref (tX0 8), .ref (tX0 10), .ref (tX0 12), .int 0])), (tX0 0, .inr (3, [.ref (tX0 1)])), (tX0 1, .inl (Y 0, 60, .inl (rfill 60 (fun _ => 0) 0))), (tX0 2, .inr (3, [.ref (tX0 3)])), (tX0 3, .inl (Y 0, 60, .inl (rfill 60 (fun _ => 0) 0))), (tX0 4, .inr (3, [.ref (tX0 5)])), (tX0 5, .inl (Y 0, 60, .inl (rfill 60 (fun _ => 0) 0))), (tX0 6, .inr (3, [.ref (tX0 7)])), (tX0 7, .inl (Y 0, 60, .inl (rfill 60 (fun _ => 0) 0))), (tX0 8, .inr (3, [.ref (tX0 9)])), (tX0 9, .inl (Y 0, 60, .inl (rfill 60 (fun _ => 0) 0))), (tX0 10, .inr (3, [.ref (tX0 11)])), (tX0 11, .inl (Y 0, 60, .inl (rfill 60 (fun _ => 0) 2))), (tX0 12, .inr (3, [.ref (tX0 13)])), (tX0 13, .inl (Y 0, 60, .inl (rfill 60 (fun _ => 0) (-1)))), (n2, .inr (5, [.ref (tX5 0), .ref (tX5 2)])), (tX5 0, .inr (3, [.ref (tX5 1)])), (tX5 1, .inl (Y 0, 10, .inl (rfill 10 (fun _ => 0) 0))), (tX5 2, .inr (3, [.ref (tX5 3)])), (tX5 3, .inl (Y 0, 40, .inl (rfill 40 (fun _ => 0) (-1)))), (n3, .inr (4, [.ref (tX4 0), .ref (tX4 2), .ref (tX4 4), .ref (tX4 6), .int 0, .ref (tX4 8), .ref (tX4 10)])), (tX4 0, .inr (3, [.ref (tX4 1)])), (tX4 1, .inl (Y 0, 6, .inl (rfill 6 (fun _ => 0) 0))), (tX4 2, .inr (3, [.ref (tX4 3)])), (tX4 3, .inl (Y 0, 6, .inl (rfill 6 (fun _ => 0) 0))), (tX4 4, .inr (3, [.ref (tX4 5)])), (tX4 5, .inl (Y 0, 6, .inl (rfill 6 (fun _ => 0) 0))), (tX4 6, .inr (3, [.ref (tX4 7)])), (tX4 7, .inl (Y 0, 6, .inl (rfill 6 (fun _ => 0) 0))), (tX4 8, .inr (3, [.ref (tX4 9)])), (tX4 9, .inl (Y 0, 72, .inl (rfill 72 (fun _ => 0) (-1)))), (tX4 10, .inr (3, [.ref (tX4 11)])), (tX4 11, .inl (Y 0, 72, .inl (rfill 72 (fun _ => 0) 0))), (n4, .inr (2, [.ref (tX2 0), .ref (tX2 2), .ref (tX2 4), .int 0])), (tX2 0, .inr (3, [.ref (tX2 1)])), (tX2 1, .inl (Y 0, 20, .inl (rfill 20 (fun _ => 0) (-1)))), (tX2 2, .inr (3, [.ref (tX2 3)])), (tX2 3, .inl (Y 0, 20, .inl (rfill 20 (fun _ => 0) (-1)))), (tX2 4, .inr (3, [.ref (tX2 5)])), (tX2 5, .inl (Y 0, 20, .inl (rfill 20 (fun _ => 0) (-1)))), (n5, .inr (1, [.ref (tX1 0), .ref (tX1 2), .ref (tX1 4)])), (tX1 0, .inr (3, [.ref (tX1 1)])), (tX1 1, .inl (Y 0, 2, .inl (rfill 2 (fun _ => 0) 0))), (tX1 2, .inr (3, [.ref (tX1 3)])), (tX1 3, .inl (Y 0, 2, .inl (rfill 2 (fun _ => 0) 5))), (tX1 4, .inr (3, [.ref (tX1 5)])), (tX1 5, .inl (Y 0, 2, .inl (rfill 2 (fun _ => 0) 2))), (n6, .inr (3, [.ref n6b])), (n6b, .inl (Y 0, 10, .inl (rfill 10 (fun _ => 0) 0)))]) rfl ?_
  refine g_aload_n F dX6_init_80 0 rfl rfl ?_
  refine g_bipush (v := 60) F dX6_init_81 (by decide) ?_
  refine g_put F lay_X6 tyX6 tyX6_ok nmX6 0 rfl rfl 10 (by decide) fl_X6_57 rfl rfl (ty := .int) rfl rfl rfl (Nat.le_of_ble_eq_true rfl) dX6_init_83 (ws' := [(h0, .inr (6, [.ref n1, .ref n2, .ref n3, .ref n4, .ref n5, .ref n6, .int 0, .int 0, .int 0, .int 400, .int 60, .int 0])), (n1, .inr (0, [.ref (tX0 0), .ref (tX0 2), .ref (tX0 4), .ref (tX0 6), .ref (tX0 8), .ref (tX0 10), .ref (tX0 12), .int 0])), (tX0 0, .inr (3, [.ref (tX0 1)])), (tX0 1, .inl (Y 0, 60, .inl (rfill 60 (fun _ => 0) 0))), (tX0 2, .inr (3, [.ref (tX0 3)])), (tX0 3, .inl (Y 0, 60, .inl (rfill 60 (fun _ => 0) 0))), (tX0 4, .inr (3, [.ref (tX0 5)])), (tX0 5, .inl (Y 0, 60, .inl (rfill 60 (fun _ => 0) 0))), (tX0 6, .inr (3, [.ref (tX0 7)])), (tX0 7, .inl (Y 0, 60, .inl (rfill 60 (fun _ => 0) 0))), (tX0 8, .inr (3, [.ref (tX0 9)])), (tX0 9, .inl (Y 0, 60, .inl (rfill 60 (fun _ => 0) 0))), (tX0 10, .inr (3, [.ref (tX0 11)])), (tX0 11, .inl (Y 0, 60, .inl (rfill 60 (fun _ => 0) 2))), (tX0 12, .inr (3, [.ref (tX0 13)])), (tX0 13, .inl (Y 0, 60, .inl (rfill 60 (fun _ => 0) (-1)))), (n2, .inr (5, [.ref (tX5 0), .ref (tX5 2)])), (tX5 0, .inr (3, [.ref (tX5 1)])), (tX5 1, .inl (Y 0, 10, .inl (rfill 10 (fun _ => 0) 0))), (tX5 2, .inr (3, [.ref (tX5 3)])), (tX5 3, .inl (Y 0, 40, .inl (rfill 40 (fun _ => 0) (-1)))), (n3, .inr (4, [.ref (tX4 0), .ref (tX4 2), .ref (tX4 4), .ref (tX4 6), .int 0, .ref (tX4 8), .ref (tX4 10)])), (tX4 0, .inr (3, [.ref (tX4 1)])), (tX4 1, .inl (Y 0, 6, .inl (rfill 6 (fun _ => 0) 0))), (tX4 2, .inr (3, [.ref (tX4 3)])), (tX4 3, .inl (Y 0, 6, .inl (rfill 6 (fun _ => 0) 0))), (tX4 4, .inr (3, [.ref (tX4 5)])), (tX4 5, .inl (Y 0, 6, .inl (rfill 6 (fun _ => 0) 0))), (tX4 6, .inr (3, [.ref (tX4 7)])), (tX4 7, .inl (Y 0, 6, .inl (rfill 6 (fun _ => 0) 0))), (tX4 8, .inr (3, [.ref (tX4 9)])), (tX4 9, .inl (Y 0, 72, .inl (rfill 72 (fun _ => 0) (-1)))), (tX4 10, .inr (3, [.ref (tX4 11)])), (tX4 11, .inl (Y 0, 72, .inl (rfill 72 (fun _ => 0) 0))), (n4, .inr (2, [.ref (tX2 0), .ref (tX2 2), .ref (tX2 4), .int 0])), (tX2 0, .inr (3, [.ref (tX2 1)])), (tX2 1, .inl (Y 0, 20, .inl (rfill 20 (fun _ => 0) (-1)))), (tX2 2, .inr (3, [.ref (tX2 3)])), (tX2 3, .inl (Y 0, 20, .inl (rfill 20 (fun _ => 0) (-1)))), (tX2 4, .inr (3, [.ref (tX2 5)])), (tX2 5, .inl (Y 0, 20, .inl (rfill 20 (fun _ => 0) (-1)))), (n5, .inr (1, [.ref (tX1 0), .ref (tX1 2), .ref (tX1 4)])), (tX1 0, .inr (3, [.ref (tX1 1)])), (tX1 1, .inl (Y 0, 2, .inl (rfill 2 (fun _ => 0) 0))), (tX1 2, .inr (3, [.ref (tX1 3)])), (tX1 3, .inl (Y 0, 2, .inl (rfill 2 (fun _ => 0) 5))), (tX1 4, .inr (3, [.ref (tX1 5)])), (tX1 5, .inl (Y 0, 2, .inl (rfill 2 (fun _ => 0) 2))), (n6, .inr (3, [.ref n6b])), (n6b, .inl (Y 0, 10, .inl (rfill 10 (fun _ => 0) 0)))]) rfl ?_
  refine g_aload_n F dX6_init_86 0 rfl rfl ?_
  refine g_sipush (v := 900) F dX6_init_87 (by decide) ?_
  refine g_put F lay_X6 tyX6 tyX6_ok nmX6 0 rfl rfl 11 (by decide) fl_X6_60 rfl rfl (ty := .int) rfl rfl rfl (Nat.le_of_ble_eq_true rfl) dX6_init_90 (ws' := [(h0, .inr (6, [.ref n1, .ref n2, .ref n3, .ref n4, .ref n5, .ref n6, .int 0, .int 0, .int 0, .int 400, .int 60, .int 900])), (n1, .inr (0, [.ref (tX0 0), .ref (tX0 2), .ref (tX0 4), .ref (tX0 6), .ref (tX0 8), .ref (tX0 10), .ref (tX0 12), .int 0])), (tX0 0, .inr (3, [.ref (tX0 1)])), (tX0 1, .inl (Y 0, 60, .inl (rfill 60 (fun _ => 0) 0))), (tX0 2, .inr (3, [.ref (tX0 3)])), (tX0 3, .inl (Y 0, 60, .inl (rfill 60 (fun _ => 0) 0))), (tX0 4, .inr (3, [.ref (tX0 5)])), (tX0 5, .inl (Y 0, 60, .inl (rfill 60 (fun _ => 0) 0))), (tX0 6, .inr (3, [.ref (tX0 7)])), (tX0 7, .inl (Y 0, 60, .inl (rfill 60 (fun _ => 0) 0))), (tX0 8, .inr (3, [.ref (tX0 9)])), (tX0 9, .inl (Y 0, 60, .inl (rfill 60 (fun _ => 0) 0))), (tX0 10, .inr (3, [.ref (tX0 11)])), (tX0 11, .inl (Y 0, 60, .inl (rfill 60 (fun _ => 0) 2))), (tX0 12, .inr (3, [.ref (tX0 13)])), (tX0 13, .inl (Y 0, 60, .inl (rfill 60 (fun _ => 0) (-1)))), (n2, .inr (5, [.ref (tX5 0), .ref (tX5 2)])), (tX5 0, .inr (3, [.ref (tX5 1)])), (tX5 1, .inl (Y 0, 10, .inl (rfill 10 (fun _ => 0) 0))), (tX5 2, .inr (3, [.ref (tX5 3)])), (tX5 3, .inl (Y 0, 40, .inl (rfill 40 (fun _ => 0) (-1)))), (n3, .inr (4, [.ref (tX4 0), .ref (tX4 2), .ref (tX4 4), .ref (tX4 6), .int 0, .ref (tX4 8), .ref (tX4 10)])), (tX4 0, .inr (3, [.ref (tX4 1)])), (tX4 1, .inl (Y 0, 6, .inl (rfill 6 (fun _ => 0) 0))), (tX4 2, .inr (3, [.ref (tX4 3)])), (tX4 3, .inl (Y 0, 6, .inl (rfill 6 (fun _ => 0) 0))), (tX4 4, .inr (3, [.ref (tX4 5)])), (tX4 5, .inl (Y 0, 6, .inl (rfill 6 (fun _ => 0) 0))), (tX4 6, .inr (3, [.ref (tX4 7)])), (tX4 7, .inl (Y 0, 6, .inl (rfill 6 (fun _ => 0) 0))), (tX4 8, .inr (3, [.ref (tX4 9)])), (tX4 9, .inl (Y 0, 72, .inl (rfill 72 (fun _ => 0) (-1)))), (tX4 10, .inr (3, [.ref (tX4 11)])), (tX4 11, .inl (Y 0, 72, .inl (rfill 72 (fun _ => 0) 0))), (n4, .inr (2, [.ref (tX2 0), .ref (tX2 2), .ref (tX2 4), .int 0])), (tX2 0, .inr (3, [.ref (tX2 1)])), (tX2 1, .inl (Y 0, 20, .inl (rfill 20 (fun _ => 0) (-1)))), (tX2 2, .inr (3, [.ref (tX2 3)])), (tX2 3, .inl (Y 0, 20, .inl (rfill 20 (fun _ => 0) (-1)))), (tX2 4, .inr (3, [.ref (tX2 5)])), (tX2 5, .inl (Y 0, 20, .inl (rfill 20 (fun _ => 0) (-1)))), (n5, .inr (1, [.ref (tX1 0), .ref (tX1 2), .ref (tX1 4)])), (tX1 0, .inr (3, [.ref (tX1 1)])), (tX1 1, .inl (Y 0, 2, .inl (rfill 2 (fun _ => 0) 0))), (tX1 2, .inr (3, [.ref (tX1 3)])), (tX1 3, .inl (Y 0, 2, .inl (rfill 2 (fun _ => 0) 5))), (tX1 4, .inr (3, [.ref (tX1 5)])), (tX1 5, .inl (Y 0, 2, .inl (rfill 2 (fun _ => 0) 2))), (n6, .inr (3, [.ref n6b])), (n6b, .inl (Y 0, 10, .inl (rfill 10 (fun _ => 0) 0)))]) rfl ?_
  refine g_widen (k := 49) (n := 760) (Nat.le_of_ble_eq_true rfl) (Nat.le_of_ble_eq_true rfl) ?_
  refine g_permK [0, 1, 16, 21, 34, 41, 2, 3, 4, 5, 6, 7, 8, 9, 10, 11, 12, 13, 14, 15, 17, 18, 19, 20, 22, 23, 24, 25, 26, 27, 28, 29, 30, 31, 32, 33, 35, 36, 37, 38, 39, 40, 42, 43, 44, 45, 46, 47, 48, 49] (ws' := wC Y (fun i => ([h0, n1, n2, n3, n4, n5, (tX0 0), (tX0 1), (tX0 2), (tX0 3), (tX0 4), (tX0 5), (tX0 6), (tX0 7), (tX0 8), (tX0 9), (tX0 10), (tX0 11), (tX0 12), (tX0 13), (tX5 0), (tX5 1), (tX5 2), (tX5 3), (tX4 0), (tX4 1), (tX4 2), (tX4 3), (tX4 4), (tX4 5), (tX4 6), (tX4 7), (tX4 8), (tX4 9), (tX4 10), (tX4 11), (tX2 0), (tX2 1), (tX2 2), (tX2 3), (tX2 4), (tX2 5), (tX1 0), (tX1 1), (tX1 2), (tX1 3), (tX1 4), (tX1 5), n6, n6b] : List Nat).getD i 0) uI) rfl (by decide) ?_
  exact g_nret F hr hlk dX6_init_93 ⟨_, rfl, rfl⟩
theorem g_nretM {p : Program} {l : Launch} {e : Env} {R : Room} {s : State} {m : MethodId} {args : Array Value} {below : List Frame} {meth : Method} {c : Code} {D : va_G} {Y : Nat → ClassId} {A : Nat → Prop} {cc : ByteArray} {nL : Nat} {own : String} {mc ms : Nat} {pc : Nat} {lv : List (Nat × Value)} {q : Nat → Nat} {u u1 : St} {v r : Int32} (F : Fx p s m args c D Y A cc nL own) (hr : meth.sig.returnType = none) (hlocks : meth.locks = false) (hd : decode cc pc = .ok (.return_, 1)) (hX : some (v, u) = some (r, u1)) : GW p l e R s m args below meth c D A nL mc ms (QN below args s D A mc ms (fun w1 => ∃ q2, q2 0 = q 0 ∧ w1 = wM Y q2 u1)) (wM Y q u) pc lv [] := by
  cases hX; exact g_nret F hr hlocks hd ⟨q, rfl, rfl⟩
theorem dX7_init_0 : decode cX7_init 0 = .ok (.aload_n 0, 1) := by decide +kernel
theorem dX7_init_1 : decode cX7_init 1 = .ok (.invokespecial 1, 3) := by decide +kernel
theorem dX7_init_4 : decode cX7_init 4 = .ok (.aload_n 0, 1) := by decide +kernel
theorem dX7_init_5 : decode cX7_init 5 = .ok (.bipush 72, 2) := by decide +kernel
theorem dX7_init_7 : decode cX7_init 7 = .ok (.newarray .int, 2) := by decide +kernel
theorem dX7_init_9 : decode cX7_init 9 = .ok (.putfield 7, 3) := by decide +kernel
theorem dX7_init_12 : decode cX7_init 12 = .ok (.aload_n 0, 1) := by decide +kernel
theorem dX7_init_13 : decode cX7_init 13 = .ok (.bipush 72, 2) := by decide +kernel
theorem dX7_init_15 : decode cX7_init 15 = .ok (.newarray .boolean, 2) := by decide +kernel
theorem dX7_init_17 : decode cX7_init 17 = .ok (.putfield 13, 3) := by decide +kernel
theorem dX7_init_20 : decode cX7_init 20 = .ok (.aload_n 0, 1) := by decide +kernel
theorem dX7_init_21 : decode cX7_init 21 = .ok (.bipush 6, 2) := by decide +kernel
theorem dX7_init_23 : decode cX7_init 23 = .ok (.newarray .boolean, 2) := by decide +kernel
theorem dX7_init_25 : decode cX7_init 25 = .ok (.putfield 17, 3) := by decide +kernel
theorem dX7_init_28 : decode cX7_init 28 = .ok (.aload_n 0, 1) := by decide +kernel
theorem dX7_init_29 : decode cX7_init 29 = .ok (.bipush 6, 2) := by decide +kernel
theorem dX7_init_31 : decode cX7_init 31 = .ok (.newarray .int, 2) := by decide +kernel
theorem dX7_init_33 : decode cX7_init 33 = .ok (.putfield 20, 3) := by decide +kernel
theorem dX7_init_36 : decode cX7_init 36 = .ok (.aload_n 0, 1) := by decide +kernel
theorem dX7_init_37 : decode cX7_init 37 = .ok (.bipush 6, 2) := by decide +kernel
theorem dX7_init_39 : decode cX7_init 39 = .ok (.newarray .int, 2) := by decide +kernel
theorem dX7_init_41 : decode cX7_init 41 = .ok (.putfield 23, 3) := by decide +kernel
theorem dX7_init_44 : decode cX7_init 44 = .ok (.aload_n 0, 1) := by decide +kernel
theorem dX7_init_45 : decode cX7_init 45 = .ok (.sipush 400, 3) := by decide +kernel
theorem dX7_init_48 : decode cX7_init 48 = .ok (.putfield 26, 3) := by decide +kernel
theorem dX7_init_51 : decode cX7_init 51 = .ok (.aload_n 0, 1) := by decide +kernel
theorem dX7_init_52 : decode cX7_init 52 = .ok (.bipush 60, 2) := by decide +kernel
theorem dX7_init_54 : decode cX7_init 54 = .ok (.putfield 30, 3) := by decide +kernel
theorem dX7_init_57 : decode cX7_init 57 = .ok (.aload_n 0, 1) := by decide +kernel
theorem dX7_init_58 : decode cX7_init 58 = .ok (.sipush 900, 3) := by decide +kernel
theorem dX7_init_61 : decode cX7_init 61 = .ok (.putfield 33, 3) := by decide +kernel
theorem dX7_init_64 : decode cX7_init 64 = .ok (.aload_n 0, 1) := by decide +kernel
theorem dX7_init_65 : decode cX7_init 65 = .ok (.bipush 60, 2) := by decide +kernel
theorem dX7_init_67 : decode cX7_init 67 = .ok (.newarray .int, 2) := by decide +kernel
theorem dX7_init_69 : decode cX7_init 69 = .ok (.putfield 36, 3) := by decide +kernel
theorem dX7_init_72 : decode cX7_init 72 = .ok (.aload_n 0, 1) := by decide +kernel
theorem dX7_init_73 : decode cX7_init 73 = .ok (.bipush 60, 2) := by decide +kernel
theorem dX7_init_75 : decode cX7_init 75 = .ok (.newarray .int, 2) := by decide +kernel
theorem dX7_init_77 : decode cX7_init 77 = .ok (.putfield 39, 3) := by decide +kernel
theorem dX7_init_80 : decode cX7_init 80 = .ok (.aload_n 0, 1) := by decide +kernel
theorem dX7_init_81 : decode cX7_init 81 = .ok (.bipush 60, 2) := by decide +kernel
theorem dX7_init_83 : decode cX7_init 83 = .ok (.newarray .int, 2) := by decide +kernel
theorem dX7_init_85 : decode cX7_init 85 = .ok (.putfield 42, 3) := by decide +kernel
theorem dX7_init_88 : decode cX7_init 88 = .ok (.aload_n 0, 1) := by decide +kernel
theorem dX7_init_89 : decode cX7_init 89 = .ok (.bipush 60, 2) := by decide +kernel
theorem dX7_init_91 : decode cX7_init 91 = .ok (.newarray .int, 2) := by decide +kernel
theorem dX7_init_93 : decode cX7_init 93 = .ok (.putfield 45, 3) := by decide +kernel
theorem dX7_init_96 : decode cX7_init 96 = .ok (.aload_n 0, 1) := by decide +kernel
theorem dX7_init_97 : decode cX7_init 97 = .ok (.bipush 60, 2) := by decide +kernel
theorem dX7_init_99 : decode cX7_init 99 = .ok (.newarray .int, 2) := by decide +kernel
theorem dX7_init_101 : decode cX7_init 101 = .ok (.putfield 48, 3) := by decide +kernel
theorem dX7_init_104 : decode cX7_init 104 = .ok (.aload_n 0, 1) := by decide +kernel
theorem dX7_init_105 : decode cX7_init 105 = .ok (.bipush 60, 2) := by decide +kernel
theorem dX7_init_107 : decode cX7_init 107 = .ok (.newarray .int, 2) := by decide +kernel
theorem dX7_init_109 : decode cX7_init 109 = .ok (.putfield 51, 3) := by decide +kernel
theorem dX7_init_112 : decode cX7_init 112 = .ok (.aload_n 0, 1) := by decide +kernel
theorem dX7_init_113 : decode cX7_init 113 = .ok (.bipush 60, 2) := by decide +kernel
theorem dX7_init_115 : decode cX7_init 115 = .ok (.newarray .int, 2) := by decide +kernel
theorem dX7_init_117 : decode cX7_init 117 = .ok (.putfield 54, 3) := by decide +kernel
theorem dX7_init_120 : decode cX7_init 120 = .ok (.aload_n 0, 1) := by decide +kernel
theorem dX7_init_121 : decode cX7_init 121 = .ok (.bipush 10, 2) := by decide +kernel
theorem dX7_init_123 : decode cX7_init 123 = .ok (.newarray .int, 2) := by decide +kernel
theorem dX7_init_125 : decode cX7_init 125 = .ok (.putfield 57, 3) := by decide +kernel
theorem dX7_init_128 : decode cX7_init 128 = .ok (.aload_n 0, 1) := by decide +kernel
theorem dX7_init_129 : decode cX7_init 129 = .ok (.bipush 40, 2) := by decide +kernel
theorem dX7_init_131 : decode cX7_init 131 = .ok (.newarray .int, 2) := by decide +kernel
theorem dX7_init_133 : decode cX7_init 133 = .ok (.putfield 60, 3) := by decide +kernel
theorem dX7_init_136 : decode cX7_init 136 = .ok (.aload_n 0, 1) := by decide +kernel
theorem dX7_init_137 : decode cX7_init 137 = .ok (.bipush 10, 2) := by decide +kernel
theorem dX7_init_139 : decode cX7_init 139 = .ok (.newarray .boolean, 2) := by decide +kernel
theorem dX7_init_141 : decode cX7_init 141 = .ok (.putfield 63, 3) := by decide +kernel
theorem dX7_init_144 : decode cX7_init 144 = .ok (.aload_n 0, 1) := by decide +kernel
theorem dX7_init_145 : decode cX7_init 145 = .ok (.iconst 2, 1) := by decide +kernel
theorem dX7_init_146 : decode cX7_init 146 = .ok (.newarray .int, 2) := by decide +kernel
theorem dX7_init_148 : decode cX7_init 148 = .ok (.putfield 66, 3) := by decide +kernel
theorem dX7_init_151 : decode cX7_init 151 = .ok (.aload_n 0, 1) := by decide +kernel
theorem dX7_init_152 : decode cX7_init 152 = .ok (.iconst 2, 1) := by decide +kernel
theorem dX7_init_153 : decode cX7_init 153 = .ok (.newarray .int, 2) := by decide +kernel
theorem dX7_init_155 : decode cX7_init 155 = .ok (.putfield 69, 3) := by decide +kernel
theorem dX7_init_158 : decode cX7_init 158 = .ok (.aload_n 0, 1) := by decide +kernel
theorem dX7_init_159 : decode cX7_init 159 = .ok (.iconst 2, 1) := by decide +kernel
theorem dX7_init_160 : decode cX7_init 160 = .ok (.newarray .int, 2) := by decide +kernel
theorem dX7_init_162 : decode cX7_init 162 = .ok (.putfield 72, 3) := by decide +kernel
theorem dX7_init_165 : decode cX7_init 165 = .ok (.aload_n 0, 1) := by decide +kernel
theorem dX7_init_166 : decode cX7_init 166 = .ok (.bipush 20, 2) := by decide +kernel
theorem dX7_init_168 : decode cX7_init 168 = .ok (.newarray .int, 2) := by decide +kernel
theorem dX7_init_170 : decode cX7_init 170 = .ok (.putfield 75, 3) := by decide +kernel
theorem dX7_init_173 : decode cX7_init 173 = .ok (.aload_n 0, 1) := by decide +kernel
theorem dX7_init_174 : decode cX7_init 174 = .ok (.bipush 20, 2) := by decide +kernel
theorem dX7_init_176 : decode cX7_init 176 = .ok (.newarray .int, 2) := by decide +kernel
theorem dX7_init_178 : decode cX7_init 178 = .ok (.putfield 78, 3) := by decide +kernel
theorem dX7_init_181 : decode cX7_init 181 = .ok (.aload_n 0, 1) := by decide +kernel
theorem dX7_init_182 : decode cX7_init 182 = .ok (.bipush 20, 2) := by decide +kernel
theorem dX7_init_184 : decode cX7_init 184 = .ok (.newarray .int, 2) := by decide +kernel
theorem dX7_init_186 : decode cX7_init 186 = .ok (.putfield 81, 3) := by decide +kernel
theorem dX7_init_189 : decode cX7_init 189 = .ok (.aload_n 0, 1) := by decide +kernel
theorem dX7_init_190 : decode cX7_init 190 = .ok (.bipush 6, 2) := by decide +kernel
theorem dX7_init_192 : decode cX7_init 192 = .ok (.newarray .int, 2) := by decide +kernel
theorem dX7_init_194 : decode cX7_init 194 = .ok (.putfield 84, 3) := by decide +kernel
theorem dX7_init_197 : decode cX7_init 197 = .ok (.iconst 0, 1) := by decide +kernel
theorem dX7_init_198 : decode cX7_init 198 = .ok (.istore_n 1, 1) := by decide +kernel
theorem dX7_init_199 : decode cX7_init 199 = .ok (.iload_n 1, 1) := by decide +kernel
theorem dX7_init_200 : decode cX7_init 200 = .ok (.bipush 72, 2) := by decide +kernel
theorem dX7_init_202 : decode cX7_init 202 = .ok (.if_icmp .ge 16, 3) := by decide +kernel
theorem dX7_init_205 : decode cX7_init 205 = .ok (.aload_n 0, 1) := by decide +kernel
theorem dX7_init_206 : decode cX7_init 206 = .ok (.getfield 7, 3) := by decide +kernel
theorem dX7_init_209 : decode cX7_init 209 = .ok (.iload_n 1, 1) := by decide +kernel
theorem dX7_init_210 : decode cX7_init 210 = .ok (.iconst (-1), 1) := by decide +kernel
theorem dX7_init_211 : decode cX7_init 211 = .ok (.iastore, 1) := by decide +kernel
theorem dX7_init_212 : decode cX7_init 212 = .ok (.iinc 1 1, 3) := by decide +kernel
theorem dX7_init_215 : decode cX7_init 215 = .ok (.goto (-16), 3) := by decide +kernel
theorem dX7_init_218 : decode cX7_init 218 = .ok (.iconst 0, 1) := by decide +kernel
theorem dX7_init_219 : decode cX7_init 219 = .ok (.istore_n 1, 1) := by decide +kernel
theorem dX7_init_220 : decode cX7_init 220 = .ok (.iload_n 1, 1) := by decide +kernel
theorem dX7_init_221 : decode cX7_init 221 = .ok (.iconst 2, 1) := by decide +kernel
theorem dX7_init_222 : decode cX7_init 222 = .ok (.if_icmp .ge 23, 3) := by decide +kernel
theorem dX7_init_225 : decode cX7_init 225 = .ok (.aload_n 0, 1) := by decide +kernel
theorem dX7_init_226 : decode cX7_init 226 = .ok (.getfield 69, 3) := by decide +kernel
theorem dX7_init_229 : decode cX7_init 229 = .ok (.iload_n 1, 1) := by decide +kernel
theorem dX7_init_230 : decode cX7_init 230 = .ok (.iconst 5, 1) := by decide +kernel
theorem dX7_init_231 : decode cX7_init 231 = .ok (.iastore, 1) := by decide +kernel
theorem dX7_init_232 : decode cX7_init 232 = .ok (.aload_n 0, 1) := by decide +kernel
theorem dX7_init_233 : decode cX7_init 233 = .ok (.getfield 72, 3) := by decide +kernel
theorem dX7_init_236 : decode cX7_init 236 = .ok (.iload_n 1, 1) := by decide +kernel
theorem dX7_init_237 : decode cX7_init 237 = .ok (.iconst 2, 1) := by decide +kernel
theorem dX7_init_238 : decode cX7_init 238 = .ok (.iastore, 1) := by decide +kernel
theorem dX7_init_239 : decode cX7_init 239 = .ok (.iinc 1 1, 3) := by decide +kernel
theorem dX7_init_242 : decode cX7_init 242 = .ok (.goto (-22), 3) := by decide +kernel
theorem dX7_init_245 : decode cX7_init 245 = .ok (.return_, 1) := by decide +kernel
def pX7_init_b220  (n : Nat) : Int32 → St → Option (Int32 × St) := Nat.rec (fun _ _ => none) (fun _ K220 x1 v => if 2 ≤ x1 then (some (0, v)) else (if (x1 < 0 ∨ 2 ≤ x1.toNatClampNeg) then none else (if (x1 < 0 ∨ 2 ≤ x1.toNatClampNeg) then none else (K220 (x1 + 1) (sA (sA v 16 (upd (v.1 16) x1.toNatClampNeg 5)) 17 (upd ((sA v 16 (upd (v.1 16) x1.toNatClampNeg 5)).1 17) x1.toNatClampNeg 2)))))) n
def pX7_init_b199  (n : Nat) : Int32 → St → Option (Int32 × St) := Nat.rec (fun _ _ => none) (fun _ K199 x1 v => if 72 ≤ x1 then (pX7_init_b220 100 0 v) else (if (x1 < 0 ∨ 72 ≤ x1.toNatClampNeg) then none else (K199 (x1 + 1) (sA v 0 (upd (v.1 0) x1.toNatClampNeg ((-1))))))) n
def pX7_init  (u : St) : Option (Int32 × St) := pX7_init_b199 100 0 u
set_option maxHeartbeats 4000000 in
set_option maxRecDepth 20000 in
theorem tX7_init {p : Program} {l : Launch} {e : Env} {s : State} {m : MethodId} {args : Array Value} {below : List Frame} {meth : Method} {c : Code} {D : va_G} {Y : Nat → ClassId} {A : Nat → Prop} {q : Nat → Nat} {u u1 : St} {r : Int32} (F : Fx p s m args c D Y A cX7_init 2 RX7) (hr : meth.sig.returnType = none) (hlk : meth.locks = false) (hX : pX7_init u = some (r, u1)) : GW p l e { frames := 1, cells := 22, slots := 714, locals := 20 } s m args below meth c D A 2 22 714 (QN below args s D A 22 714 (fun w1 => ∃ q2, q2 0 = q 0 ∧ w1 = wM Y q2 u1)) (wM Y q u) 197 [(0, .ref (q 0))] [] := by
  have b220 : ∀  (n : Nat) (x1 : Int32) (v : St), pX7_init_b220  n x1 v = some (r, u1) → GW p l e { frames := 1, cells := 22, slots := 714, locals := 20 } s m args below meth c D A 2 22 714 (QN below args s D A 22 714 (fun w1 => ∃ q2, q2 0 = q 0 ∧ w1 = wM Y q2 u1)) (wM Y q v) 220 [(0, .ref (q 0)), (1, .int x1)] [] := by
    intro  n
    induction n with
    | zero => intro x1 v hX; cases hX
    | succ n ih =>
      intro x1 v hX
      obtain ⟨K220, eK⟩ : ∃ K : Int32 → St → Option (Int32 × St), K = pX7_init_b220  n := ⟨_, rfl⟩
      have hK220 : ∀ (x1 : Int32) (v : St), K220 x1 v = some (r, u1) → GW p l e { frames := 1, cells := 22, slots := 714, locals := 20 } s m args below meth c D A 2 22 714 (QN below args s D A 22 714 (fun w1 => ∃ q2, q2 0 = q 0 ∧ w1 = wM Y q2 u1)) (wM Y q v) 220 [(0, .ref (q 0)), (1, .int x1)] [] := by rw [eK]; exact ih
      have hX : ((if 2 ≤ x1 then (some (0, v)) else (if (x1 < 0 ∨ 2 ≤ x1.toNatClampNeg) then none else (if (x1 < 0 ∨ 2 ≤ x1.toNatClampNeg) then none else (K220 (x1 + 1) (sA (sA v 16 (upd (v.1 16) x1.toNatClampNeg 5)) 17 (upd ((sA v 16 (upd (v.1 16) x1.toNatClampNeg 5)).1 17) x1.toNatClampNeg 2)))))) : Option (Int32 × St)) = some (r, u1) := by rw [eK]; exact hX
      refine g_iload_n F dX7_init_220 1 rfl rfl ?_
      refine g_iconst (v := 2) F dX7_init_221 (by decide) ?_
      refine g_icmp_ge (tgt := 245) F dX7_init_222 (by decide) (fun c2 => ?_) (fun c2 => ?_)
      · have hX := if_t hX c2
        exact g_nretM F hr hlk dX7_init_245 hX
      · have hX := if_f hX c2
        refine g_aload_n F dX7_init_225 0 rfl rfl ?_
        refine G_X7_69 F dX7_init_226 ?_
        refine g_iload_n F dX7_init_229 1 rfl rfl ?_
        refine g_iconst (v := 5) F dX7_init_230 (by decide) ?_
        obtain ⟨hI3, hX⟩ := inb hX
        refine AS_16 F hI3 dX7_init_231 ?_
        refine g_aload_n F dX7_init_232 0 rfl rfl ?_
        refine G_X7_72 F dX7_init_233 ?_
        refine g_iload_n F dX7_init_236 1 rfl rfl ?_
        refine g_iconst (v := 2) F dX7_init_237 (by decide) ?_
        obtain ⟨hI4, hX⟩ := inb hX
        refine AS_17 F hI4 dX7_init_238 ?_
        refine g_iinc (v := x1 + 1) (lv' := [(1, .int (x1 + 1)), (0, .ref (q 0))]) F dX7_init_239 1 rfl rfl (by decide) rfl ?_
        refine g_goto (tgt := 220) F dX7_init_242 (by decide) ?_
        refine g_sub [1, 0] rfl ?_
        exact hK220 (x1 + 1) (sA (sA v 16 (upd (v.1 16) x1.toNatClampNeg 5)) 17 (upd ((sA v 16 (upd (v.1 16) x1.toNatClampNeg 5)).1 17) x1.toNatClampNeg 2)) hX
  have b199 : ∀  (n : Nat) (x1 : Int32) (v : St), pX7_init_b199  n x1 v = some (r, u1) → GW p l e { frames := 1, cells := 22, slots := 714, locals := 20 } s m args below meth c D A 2 22 714 (QN below args s D A 22 714 (fun w1 => ∃ q2, q2 0 = q 0 ∧ w1 = wM Y q2 u1)) (wM Y q v) 199 [(0, .ref (q 0)), (1, .int x1)] [] := by
    intro  n
    induction n with
    | zero => intro x1 v hX; cases hX
    | succ n ih =>
      intro x1 v hX
      obtain ⟨K199, eK⟩ : ∃ K : Int32 → St → Option (Int32 × St), K = pX7_init_b199  n := ⟨_, rfl⟩
      have hK199 : ∀ (x1 : Int32) (v : St), K199 x1 v = some (r, u1) → GW p l e { frames := 1, cells := 22, slots := 714, locals := 20 } s m args below meth c D A 2 22 714 (QN below args s D A 22 714 (fun w1 => ∃ q2, q2 0 = q 0 ∧ w1 = wM Y q2 u1)) (wM Y q v) 199 [(0, .ref (q 0)), (1, .int x1)] [] := by rw [eK]; exact ih
      have hX : ((if 72 ≤ x1 then (pX7_init_b220 100 0 v) else (if (x1 < 0 ∨ 72 ≤ x1.toNatClampNeg) then none else (K199 (x1 + 1) (sA v 0 (upd (v.1 0) x1.toNatClampNeg ((-1))))))) : Option (Int32 × St)) = some (r, u1) := by rw [eK]; exact hX
      refine g_iload_n F dX7_init_199 1 rfl rfl ?_
      refine g_bipush (v := 72) F dX7_init_200 (by decide) ?_
      refine g_icmp_ge (tgt := 218) F dX7_init_202 (by decide) (fun c1 => ?_) (fun c1 => ?_)
      · have hX := if_t hX c1
        refine g_iconst (v := 0) F dX7_init_218 (by decide) ?_
        refine g_istore_n (lv' := [(1, .int 0), (0, .ref (q 0))]) F dX7_init_219 rfl (by decide) rfl ?_
        refine g_sub [1, 0] rfl ?_
        exact b220 100 0 v hX
      · have hX := if_f hX c1
        refine g_aload_n F dX7_init_205 0 rfl rfl ?_
        refine G_X7_7 F dX7_init_206 ?_
        refine g_iload_n F dX7_init_209 1 rfl rfl ?_
        refine g_iconst (v := (-1)) F dX7_init_210 (by decide) ?_
        obtain ⟨hI5, hX⟩ := inb hX
        refine AS_0 F hI5 dX7_init_211 ?_
        refine g_iinc (v := x1 + 1) (lv' := [(1, .int (x1 + 1)), (0, .ref (q 0))]) F dX7_init_212 1 rfl rfl (by decide) rfl ?_
        refine g_goto (tgt := 199) F dX7_init_215 (by decide) ?_
        refine g_sub [1, 0] rfl ?_
        exact hK199 (x1 + 1) (sA v 0 (upd (v.1 0) x1.toNatClampNeg ((-1)))) hX
  have hX : ((pX7_init_b199 100 0 u) : Option (Int32 × St)) = some (r, u1) := hX
  refine g_iconst (v := 0) F dX7_init_197 (by decide) ?_
  refine g_istore_n (lv' := [(1, .int 0), (0, .ref (q 0))]) F dX7_init_198 rfl (by decide) rfl ?_
  refine g_sub [1, 0] rfl ?_
  exact b199 100 0 u hX
def uM0 : St := (fun _ _ => 0, fun j => match j with
  | 1 => 400
  | 2 => 60
  | 3 => 900
  | _ => 0)
set_option maxHeartbeats 8000000 in
set_option maxRecDepth 40000 in
theorem kX7_init {l : Launch} {D : va_G} {Y : Nat → ClassId} {h0 : Nat} {u1 : St} {r : Int32} (hX : pX7_init uM0 = some (r, u1)) : CN l yX7_init cX7_init 2 1 20 22 714 D Y [(h0, .inr (7, [.int 0, .null, .null, .null, .null, .null, .int 0, .int 0, .int 0, .int 0, .null, .null, .null, .null, .null, .null, .null, .null, .null, .int 0, .null, .null, .null, .null, .int 0, .null, .null, .null, .int 0, .int 0, .null]))] [.ref h0] (fun w1 => ∃ q2, q2 0 = h0 ∧ w1 = wM Y q2 u1) := by
  refine cm_ofn (by decide) (Nat.le_of_ble_eq_true rfl) rfl (fun p e s m args below meth c A F hr hlk hin => ?_)
  show GW p l e { frames := 1, cells := 22, slots := 714, locals := 20 } s m args below meth c D A 2 0 0 (QN below args s D A 22 714 (fun w1 => ∃ q2, q2 0 = h0 ∧ w1 = wM Y q2 u1)) [(h0, .inr (7, [.int 0, .null, .null, .null, .null, .null, .int 0, .int 0, .int 0, .int 0, .null, .null, .null, .null, .null, .null, .null, .null, .null, .int 0, .null, .null, .null, .null, .int 0, .null, .null, .null, .int 0, .int 0, .null]))] 0 [(0, .ref h0)] []
  refine g_aload_n F dX7_init_0 0 rfl rfl ?_
  refine g_objInit F ml_X7_1 dX7_init_1 ⟨Nat.le_of_ble_eq_true rfl, Nat.le_of_ble_eq_true rfl⟩ ?_
  refine g_aload_n F dX7_init_4 0 rfl rfl ?_
  refine g_bipush (v := 72) F dX7_init_5 (by decide) ?_
  refine g_newa (atype := .int) (ty := .int) (N' := 72) F 0 rfl rfl rfl (fun C h => by cases h) ac_int (by decide) (by decide) (by decide) ⟨Nat.le_of_ble_eq_true rfl, Nat.le_of_ble_eq_true rfl⟩ dX7_init_7 (fun b0 => ?_)
  refine g_putF F lay_X7 tyX7 tyX7_ok nmX7 0 rfl rfl 1 (by decide) fl_X7_7 rfl rfl hin rfl (ty := tyX7 1) rfl rfl rfl (Nat.le_of_ble_eq_true rfl) dX7_init_9 (ws' := [(h0, .inr (7, [.int 0, .ref b0, .null, .null, .null, .null, .int 0, .int 0, .int 0, .int 0, .null, .null, .null, .null, .null, .null, .null, .null, .null, .int 0, .null, .null, .null, .null, .int 0, .null, .null, .null, .int 0, .int 0, .null])), (b0, .inl (Y 0, 72, .inl (fun _ => 0)))]) rfl ?_
  refine g_aload_n F dX7_init_12 0 rfl rfl ?_
  refine g_bipush (v := 72) F dX7_init_13 (by decide) ?_
  refine g_newa (atype := .boolean) (ty := .boolean) (N' := 72) F 1 rfl rfl rfl (fun C h => by cases h) ac_boolean (by decide) (by decide) (by decide) ⟨Nat.le_of_ble_eq_true rfl, Nat.le_of_ble_eq_true rfl⟩ dX7_init_15 (fun b1 => ?_)
  refine g_putF F lay_X7 tyX7 tyX7_ok nmX7 0 rfl rfl 2 (by decide) fl_X7_13 rfl rfl hin rfl (ty := tyX7 2) rfl rfl rfl (Nat.le_of_ble_eq_true rfl) dX7_init_17 (ws' := [(h0, .inr (7, [.int 0, .ref b0, .ref b1, .null, .null, .null, .int 0, .int 0, .int 0, .int 0, .null, .null, .null, .null, .null, .null, .null, .null, .null, .int 0, .null, .null, .null, .null, .int 0, .null, .null, .null, .int 0, .int 0, .null])), (b0, .inl (Y 0, 72, .inl (fun _ => 0))), (b1, .inl (Y 1, 72, .inl (fun _ => 0)))]) rfl ?_
  refine g_aload_n F dX7_init_20 0 rfl rfl ?_
  refine g_bipush (v := 6) F dX7_init_21 (by decide) ?_
  refine g_newa (atype := .boolean) (ty := .boolean) (N' := 6) F 1 rfl rfl rfl (fun C h => by cases h) ac_boolean (by decide) (by decide) (by decide) ⟨Nat.le_of_ble_eq_true rfl, Nat.le_of_ble_eq_true rfl⟩ dX7_init_23 (fun b2 => ?_)
  refine g_putF F lay_X7 tyX7 tyX7_ok nmX7 0 rfl rfl 3 (by decide) fl_X7_17 rfl rfl hin rfl (ty := tyX7 3) rfl rfl rfl (Nat.le_of_ble_eq_true rfl) dX7_init_25 (ws' := [(h0, .inr (7, [.int 0, .ref b0, .ref b1, .ref b2, .null, .null, .int 0, .int 0, .int 0, .int 0, .null, .null, .null, .null, .null, .null, .null, .null, .null, .int 0, .null, .null, .null, .null, .int 0, .null, .null, .null, .int 0, .int 0, .null])), (b0, .inl (Y 0, 72, .inl (fun _ => 0))), (b1, .inl (Y 1, 72, .inl (fun _ => 0))), (b2, .inl (Y 1, 6, .inl (fun _ => 0)))]) rfl ?_
  refine g_aload_n F dX7_init_28 0 rfl rfl ?_
  refine g_bipush (v := 6) F dX7_init_29 (by decide) ?_
  refine g_newa (atype := .int) (ty := .int) (N' := 6) F 0 rfl rfl rfl (fun C h => by cases h) ac_int (by decide) (by decide) (by decide) ⟨Nat.le_of_ble_eq_true rfl, Nat.le_of_ble_eq_true rfl⟩ dX7_init_31 (fun b3 => ?_)
  refine g_putF F lay_X7 tyX7 tyX7_ok nmX7 0 rfl rfl 4 (by decide) fl_X7_20 rfl rfl hin rfl (ty := tyX7 4) rfl rfl rfl (Nat.le_of_ble_eq_true rfl) dX7_init_33 (ws' := [(h0, .inr (7, [.int 0, .ref b0, .ref b1, .ref b2, .ref b3, .null, .int 0, .int 0, .int 0, .int 0, .null, .null, .null, .null, .null, .null, .null, .null, .null, .int 0, .null, .null, .null, .null, .int 0, .null, .null, .null, .int 0, .int 0, .null])), (b0, .inl (Y 0, 72, .inl (fun _ => 0))), (b1, .inl (Y 1, 72, .inl (fun _ => 0))), (b2, .inl (Y 1, 6, .inl (fun _ => 0))), (b3, .inl (Y 0, 6, .inl (fun _ => 0)))]) rfl ?_
  refine g_aload_n F dX7_init_36 0 rfl rfl ?_
  refine g_bipush (v := 6) F dX7_init_37 (by decide) ?_
  refine g_newa (atype := .int) (ty := .int) (N' := 6) F 0 rfl rfl rfl (fun C h => by cases h) ac_int (by decide) (by decide) (by decide) ⟨Nat.le_of_ble_eq_true rfl, Nat.le_of_ble_eq_true rfl⟩ dX7_init_39 (fun b4 => ?_)
  refine g_putF F lay_X7 tyX7 tyX7_ok nmX7 0 rfl rfl 5 (by decide) fl_X7_23 rfl rfl hin rfl (ty := tyX7 5) rfl rfl rfl (Nat.le_of_ble_eq_true rfl) dX7_init_41 (ws' := [(h0, .inr (7, [.int 0, .ref b0, .ref b1, .ref b2, .ref b3, .ref b4, .int 0, .int 0, .int 0, .int 0, .null, .null, .null, .null, .null, .null, .null, .null, .null, .int 0, .null, .null, .null, .null, .int 0, .null, .null, .null, .int 0, .int 0, .null])), (b0, .inl (Y 0, 72, .inl (fun _ => 0))), (b1, .inl (Y 1, 72, .inl (fun _ => 0))), (b2, .inl (Y 1, 6, .inl (fun _ => 0))), (b3, .inl (Y 0, 6, .inl (fun _ => 0))), (b4, .inl (Y 0, 6, .inl (fun _ => 0)))]) rfl ?_
  refine g_aload_n F dX7_init_44 0 rfl rfl ?_
  refine g_sipush (v := 400) F dX7_init_45 (by decide) ?_
  refine g_put F lay_X7 tyX7 tyX7_ok nmX7 0 rfl rfl 6 (by decide) fl_X7_26 rfl rfl (ty := .int) rfl rfl rfl (Nat.le_of_ble_eq_true rfl) dX7_init_48 (ws' := [(h0, .inr (7, [.int 0, .ref b0, .ref b1, .ref b2, .ref b3, .ref b4, .int 400, .int 0, .int 0, .int 0, .null, .null, .null, .null, .null, .null, .null, .null, .null, .int 0, .null, .null, .null, .null, .int 0, .null, .null, .null, .int 0, .int 0, .null])), (b0, .inl (Y 0, 72, .inl (fun _ => 0))), (b1, .inl (Y 1, 72, .inl (fun _ => 0))), (b2, .inl (Y 1, 6, .inl (fun _ => 0))), (b3, .inl (Y 0, 6, .inl (fun _ => 0))), (b4, .inl (Y 0, 6, .inl (fun _ => 0)))]) rfl ?_
  refine g_aload_n F dX7_init_51 0 rfl rfl ?_
  refine g_bipush (v := 60) F dX7_init_52 (by decide) ?_
  refine g_put F lay_X7 tyX7 tyX7_ok nmX7 0 rfl rfl 7 (by decide) fl_X7_30 rfl rfl (ty := .int) rfl rfl rfl (Nat.le_of_ble_eq_true rfl) dX7_init_54 (ws' := [(h0, .inr (7, [.int 0, .ref b0, .ref b1, .ref b2, .ref b3, .ref b4, .int 400, .int 60, .int 0, .int 0, .null, .null, .null, .null, .null, .null, .null, .null, .null, .int 0, .null, .null, .null, .null, .int 0, .null, .null, .null, .int 0, .int 0, .null])), (b0, .inl (Y 0, 72, .inl (fun _ => 0))), (b1, .inl (Y 1, 72, .inl (fun _ => 0))), (b2, .inl (Y 1, 6, .inl (fun _ => 0))), (b3, .inl (Y 0, 6, .inl (fun _ => 0))), (b4, .inl (Y 0, 6, .inl (fun _ => 0)))]) rfl ?_
  refine g_aload_n F dX7_init_57 0 rfl rfl ?_
  refine g_sipush (v := 900) F dX7_init_58 (by decide) ?_
  refine g_put F lay_X7 tyX7 tyX7_ok nmX7 0 rfl rfl 8 (by decide) fl_X7_33 rfl rfl (ty := .int) rfl rfl rfl (Nat.le_of_ble_eq_true rfl) dX7_init_61 (ws' := [(h0, .inr (7, [.int 0, .ref b0, .ref b1, .ref b2, .ref b3, .ref b4, .int 400, .int 60, .int 900, .int 0, .null, .null, .null, .null, .null, .null, .null, .null, .null, .int 0, .null, .null, .null, .null, .int 0, .null, .null, .null, .int 0, .int 0, .null])), (b0, .inl (Y 0, 72, .inl (fun _ => 0))), (b1, .inl (Y 1, 72, .inl (fun _ => 0))), (b2, .inl (Y 1, 6, .inl (fun _ => 0))), (b3, .inl (Y 0, 6, .inl (fun _ => 0))), (b4, .inl (Y 0, 6, .inl (fun _ => 0)))]) rfl ?_
  refine g_aload_n F dX7_init_64 0 rfl rfl ?_
  refine g_bipush (v := 60) F dX7_init_65 (by decide) ?_
  refine g_newa (atype := .int) (ty := .int) (N' := 60) F 0 rfl rfl rfl (fun C h => by cases h) ac_int (by decide) (by decide) (by decide) ⟨Nat.le_of_ble_eq_true rfl, Nat.le_of_ble_eq_true rfl⟩ dX7_init_67 (fun b5 => ?_)
  refine g_putF F lay_X7 tyX7 tyX7_ok nmX7 0 rfl rfl 10 (by decide) fl_X7_36 rfl rfl hin rfl (ty := tyX7 10) rfl rfl rfl (Nat.le_of_ble_eq_true rfl) dX7_init_69 (ws' := [(h0, .inr (7, [.int 0, .ref b0, .ref b1, .ref b2, .ref b3, .ref b4, .int 400, .int 60, .int 900, .int 0, .ref b5, .null, .null, .null, .null, .null, .null, .null, .null, .int 0, .null, .null, .null, .null, .int 0, .null, .null, .null, .int 0, .int 0, .null])), (b0, .inl (Y 0, 72, .inl (fun _ => 0))), (b1, .inl (Y 1, 72, .inl (fun _ => 0))), (b2, .inl (Y 1, 6, .inl (fun _ => 0))), (b3, .inl (Y 0, 6, .inl (fun _ => 0))), (b4, .inl (Y 0, 6, .inl (fun _ => 0))), (b5, .inl (Y 0, 60, .inl (fun _ => 0)))]) rfl ?_
  refine g_aload_n F dX7_init_72 0 rfl rfl ?_
  refine g_bipush (v := 60) F dX7_init_73 (by decide) ?_
  refine g_newa (atype := .int) (ty := .int) (N' := 60) F 0 rfl rfl rfl (fun C h => by cases h) ac_int (by decide) (by decide) (by decide) ⟨Nat.le_of_ble_eq_true rfl, Nat.le_of_ble_eq_true rfl⟩ dX7_init_75 (fun b6 => ?_)
  refine g_putF F lay_X7 tyX7 tyX7_ok nmX7 0 rfl rfl 11 (by decide) fl_X7_39 rfl rfl hin rfl (ty := tyX7 11) rfl rfl rfl (Nat.le_of_ble_eq_true rfl) dX7_init_77 (ws' := [(h0, .inr (7, [.int 0, .ref b0, .ref b1, .ref b2, .ref b3, .ref b4, .int 400, .int 60, .int 900, .int 0, .ref b5, .ref b6, .null, .null, .null, .null, .null, .null, .null, .int 0, .null, .null, .null, .null, .int 0, .null, .null, .null, .int 0, .int 0, .null])), (b0, .inl (Y 0, 72, .inl (fun _ => 0))), (b1, .inl (Y 1, 72, .inl (fun _ => 0))), (b2, .inl (Y 1, 6, .inl (fun _ => 0))), (b3, .inl (Y 0, 6, .inl (fun _ => 0))), (b4, .inl (Y 0, 6, .inl (fun _ => 0))), (b5, .inl (Y 0, 60, .inl (fun _ => 0))), (b6, .inl (Y 0, 60, .inl (fun _ => 0)))]) rfl ?_
  refine g_aload_n F dX7_init_80 0 rfl rfl ?_
  refine g_bipush (v := 60) F dX7_init_81 (by decide) ?_
  refine g_newa (atype := .int) (ty := .int) (N' := 60) F 0 rfl rfl rfl (fun C h => by cases h) ac_int (by decide) (by decide) (by decide) ⟨Nat.le_of_ble_eq_true rfl, Nat.le_of_ble_eq_true rfl⟩ dX7_init_83 (fun b7 => ?_)
  refine g_putF F lay_X7 tyX7 tyX7_ok nmX7 0 rfl rfl 12 (by decide) fl_X7_42 rfl rfl hin rfl (ty := tyX7 12) rfl rfl rfl (Nat.le_of_ble_eq_true rfl) dX7_init_85 (ws' := [(h0, .inr (7, [.int 0, .ref b0, .ref b1, .ref b2, .ref b3, .ref b4, .int 400, .int 60, .int 900, .int 0, .ref b5, .ref b6, .ref b7, .null, .null, .null, .null, .null, .null, .int 0, .null, .null, .null, .null, .int 0, .null, .null, .null, .int 0, .int 0, .null])), (b0, .inl (Y 0, 72, .inl (fun _ => 0))), (b1, .inl (Y 1, 72, .inl (fun _ => 0))), (b2, .inl (Y 1, 6, .inl (fun _ => 0))), (b3, .inl (Y 0, 6, .inl (fun _ => 0))), (b4, .inl (Y 0, 6, .inl (fun _ => 0))), (b5, .inl (Y 0, 60, .inl (fun _ => 0))), (b6, .inl (Y 0, 60, .inl (fun _ => 0))), (b7, .inl (Y 0, 60, .inl (fun _ => 0)))]) rfl ?_
  refine g_aload_n F dX7_init_88 0 rfl rfl ?_
  refine g_bipush (v := 60) F dX7_init_89 (by decide) ?_
  refine g_newa (atype := .int) (ty := .int) (N' := 60) F 0 rfl rfl rfl (fun C h => by cases h) ac_int (by decide) (by decide) (by decide) ⟨Nat.le_of_ble_eq_true rfl, Nat.le_of_ble_eq_true rfl⟩ dX7_init_91 (fun b8 => ?_)
  refine g_putF F lay_X7 tyX7 tyX7_ok nmX7 0 rfl rfl 13 (by decide) fl_X7_45 rfl rfl hin rfl (ty := tyX7 13) rfl rfl rfl (Nat.le_of_ble_eq_true rfl) dX7_init_93 (ws' := [(h0, .inr (7, [.int 0, .ref b0, .ref b1, .ref b2, .ref b3, .ref b4, .int 400, .int 60, .int 900, .int 0, .ref b5, .ref b6, .ref b7, .ref b8, .null, .null, .null, .null, .null, .int 0, .null, .null, .null, .null, .int 0, .null, .null, .null, .int 0, .int 0, .null])), (b0, .inl (Y 0, 72, .inl (fun _ => 0))), (b1, .inl (Y 1, 72, .inl (fun _ => 0))), (b2, .inl (Y 1, 6, .inl (fun _ => 0))), (b3, .inl (Y 0, 6, .inl (fun _ => 0))), (b4, .inl (Y 0, 6, .inl (fun _ => 0))), (b5, .inl (Y 0, 60, .inl (fun _ => 0))), (b6, .inl (Y 0, 60, .inl (fun _ => 0))), (b7, .inl (Y 0, 60, .inl (fun _ => 0))), (b8, .inl (Y 0, 60, .inl (fun _ => 0)))]) rfl ?_
  refine g_aload_n F dX7_init_96 0 rfl rfl ?_
  refine g_bipush (v := 60) F dX7_init_97 (by decide) ?_
  refine g_newa (atype := .int) (ty := .int) (N' := 60) F 0 rfl rfl rfl (fun C h => by cases h) ac_int (by decide) (by decide) (by decide) ⟨Nat.le_of_ble_eq_true rfl, Nat.le_of_ble_eq_true rfl⟩ dX7_init_99 (fun b9 => ?_)
  refine g_putF F lay_X7 tyX7 tyX7_ok nmX7 0 rfl rfl 14 (by decide) fl_X7_48 rfl rfl hin rfl (ty := tyX7 14) rfl rfl rfl (Nat.le_of_ble_eq_true rfl) dX7_init_101 (ws' := [(h0, .inr (7, [.int 0, .ref b0, .ref b1, .ref b2, .ref b3, .ref b4, .int 400, .int 60, .int 900, .int 0, .ref b5, .ref b6, .ref b7, .ref b8, .ref b9, .null, .null, .null, .null, .int 0, .null, .null, .null, .null, .int 0, .null, .null, .null, .int 0, .int 0, .null])), (b0, .inl (Y 0, 72, .inl (fun _ => 0))), (b1, .inl (Y 1, 72, .inl (fun _ => 0))), (b2, .inl (Y 1, 6, .inl (fun _ => 0))), (b3, .inl (Y 0, 6, .inl (fun _ => 0))), (b4, .inl (Y 0, 6, .inl (fun _ => 0))), (b5, .inl (Y 0, 60, .inl (fun _ => 0))), (b6, .inl (Y 0, 60, .inl (fun _ => 0))), (b7, .inl (Y 0, 60, .inl (fun _ => 0))), (b8, .inl (Y 0, 60, .inl (fun _ => 0))), (b9, .inl (Y 0, 60, .inl (fun _ => 0)))]) rfl ?_
  refine g_aload_n F dX7_init_104 0 rfl rfl ?_
  refine g_bipush (v := 60) F dX7_init_105 (by decide) ?_
  refine g_newa (atype := .int) (ty := .int) (N' := 60) F 0 rfl rfl rfl (fun C h => by cases h) ac_int (by decide) (by decide) (by decide) ⟨Nat.le_of_ble_eq_true rfl, Nat.le_of_ble_eq_true rfl⟩ dX7_init_107 (fun b10 => ?_)
  refine g_putF F lay_X7 tyX7 tyX7_ok nmX7 0 rfl rfl 15 (by decide) fl_X7_51 rfl rfl hin rfl (ty := tyX7 15) rfl rfl rfl (Nat.le_of_ble_eq_true rfl) dX7_init_109 (ws' := [(h0, .inr (7, [.int 0, .ref b0, .ref b1, .ref b2, .ref b3, .ref b4, .int 400, .int 60, .int 900, .int 0, .ref b5, .ref b6, .ref b7, .ref b8, .ref b9, .ref b10, .null, .null, .null, .int 0, .null, .null, .null, .null, .int 0, .null, .null, .null, .int 0, .int 0, .null])), (b0, .inl (Y 0, 72, .inl (fun _ => 0))), (b1, .inl (Y 1, 72, .inl (fun _ => 0))), (b2, .inl (Y 1, 6, .inl (fun _ => 0))), (b3, .inl (Y 0, 6, .inl (fun _ => 0))), (b4, .inl (Y 0, 6, .inl (fun _ => 0))), (b5, .inl (Y 0, 60, .inl (fun _ => 0))), (b6, .inl (Y 0, 60, .inl (fun _ => 0))), (b7, .inl (Y 0, 60, .inl (fun _ => 0))), (b8, .inl (Y 0, 60, .inl (fun _ => 0))), (b9, .inl (Y 0, 60, .inl (fun _ => 0))), (b10, .inl (Y 0, 60, .inl (fun _ => 0)))]) rfl ?_
  refine g_aload_n F dX7_init_112 0 rfl rfl ?_
  refine g_bipush (v := 60) F dX7_init_113 (by decide) ?_
  refine g_newa (atype := .int) (ty := .int) (N' := 60) F 0 rfl rfl rfl (fun C h => by cases h) ac_int (by decide) (by decide) (by decide) ⟨Nat.le_of_ble_eq_true rfl, Nat.le_of_ble_eq_true rfl⟩ dX7_init_115 (fun b11 => ?_)
  refine g_putF F lay_X7 tyX7 tyX7_ok nmX7 0 rfl rfl 16 (by decide) fl_X7_54 rfl rfl hin rfl (ty := tyX7 16) rfl rfl rfl (Nat.le_of_ble_eq_true rfl) dX7_init_117 (ws' := [(h0, .inr (7, [.int 0, .ref b0, .ref b1, .ref b2, .ref b3, .ref b4, .int 400, .int 60, .int 900, .int 0, .ref b5, .ref b6, .ref b7, .ref b8, .ref b9, .ref b10, .ref b11, .null, .null, .int 0, .null, .null, .null, .null, .int 0, .null, .null, .null, .int 0, .int 0, .null])), (b0, .inl (Y 0, 72, .inl (fun _ => 0))), (b1, .inl (Y 1, 72, .inl (fun _ => 0))), (b2, .inl (Y 1, 6, .inl (fun _ => 0))), (b3, .inl (Y 0, 6, .inl (fun _ => 0))), (b4, .inl (Y 0, 6, .inl (fun _ => 0))), (b5, .inl (Y 0, 60, .inl (fun _ => 0))), (b6, .inl (Y 0, 60, .inl (fun _ => 0))), (b7, .inl (Y 0, 60, .inl (fun _ => 0))), (b8, .inl (Y 0, 60, .inl (fun _ => 0))), (b9, .inl (Y 0, 60, .inl (fun _ => 0))), (b10, .inl (Y 0, 60, .inl (fun _ => 0))), (b11, .inl (Y 0, 60, .inl (fun _ => 0)))]) rfl ?_
  refine g_aload_n F dX7_init_120 0 rfl rfl ?_
  refine g_bipush (v := 10) F dX7_init_121 (by decide) ?_
  refine g_newa (atype := .int) (ty := .int) (N' := 10) F 0 rfl rfl rfl (fun C h => by cases h) ac_int (by decide) (by decide) (by decide) ⟨Nat.le_of_ble_eq_true rfl, Nat.le_of_ble_eq_true rfl⟩ dX7_init_123 (fun b12 => ?_)
  refine g_putF F lay_X7 tyX7 tyX7_ok nmX7 0 rfl rfl 17 (by decide) fl_X7_57 rfl rfl hin rfl (ty := tyX7 17) rfl rfl rfl (Nat.le_of_ble_eq_true rfl) dX7_init_125 (ws' := [(h0, .inr (7, [.int 0, .ref b0, .ref b1, .ref b2, .ref b3, .ref b4, .int 400, .int 60, .int 900, .int 0, .ref b5, .ref b6, .ref b7, .ref b8, .ref b9, .ref b10, .ref b11, .ref b12, .null, .int 0, .null, .null, .null, .null, .int 0, .null, .null, .null, .int 0, .int 0, .null])), (b0, .inl (Y 0, 72, .inl (fun _ => 0))), (b1, .inl (Y 1, 72, .inl (fun _ => 0))), (b2, .inl (Y 1, 6, .inl (fun _ => 0))), (b3, .inl (Y 0, 6, .inl (fun _ => 0))), (b4, .inl (Y 0, 6, .inl (fun _ => 0))), (b5, .inl (Y 0, 60, .inl (fun _ => 0))), (b6, .inl (Y 0, 60, .inl (fun _ => 0))), (b7, .inl (Y 0, 60, .inl (fun _ => 0))), (b8, .inl (Y 0, 60, .inl (fun _ => 0))), (b9, .inl (Y 0, 60, .inl (fun _ => 0))), (b10, .inl (Y 0, 60, .inl (fun _ => 0))), (b11, .inl (Y 0, 60, .inl (fun _ => 0))), (b12, .inl (Y 0, 10, .inl (fun _ => 0)))]) rfl ?_
  refine g_aload_n F dX7_init_128 0 rfl rfl ?_
  refine g_bipush (v := 40) F dX7_init_129 (by decide) ?_
  refine g_newa (atype := .int) (ty := .int) (N' := 40) F 0 rfl rfl rfl (fun C h => by cases h) ac_int (by decide) (by decide) (by decide) ⟨Nat.le_of_ble_eq_true rfl, Nat.le_of_ble_eq_true rfl⟩ dX7_init_131 (fun b13 => ?_)
  refine g_putF F lay_X7 tyX7 tyX7_ok nmX7 0 rfl rfl 18 (by decide) fl_X7_60 rfl rfl hin rfl (ty := tyX7 18) rfl rfl rfl (Nat.le_of_ble_eq_true rfl) dX7_init_133 (ws' := [(h0, .inr (7, [.int 0, .ref b0, .ref b1, .ref b2, .ref b3, .ref b4, .int 400, .int 60, .int 900, .int 0, .ref b5, .ref b6, .ref b7, .ref b8, .ref b9, .ref b10, .ref b11, .ref b12, .ref b13, .int 0, .null, .null, .null, .null, .int 0, .null, .null, .null, .int 0, .int 0, .null])), (b0, .inl (Y 0, 72, .inl (fun _ => 0))), (b1, .inl (Y 1, 72, .inl (fun _ => 0))), (b2, .inl (Y 1, 6, .inl (fun _ => 0))), (b3, .inl (Y 0, 6, .inl (fun _ => 0))), (b4, .inl (Y 0, 6, .inl (fun _ => 0))), (b5, .inl (Y 0, 60, .inl (fun _ => 0))), (b6, .inl (Y 0, 60, .inl (fun _ => 0))), (b7, .inl (Y 0, 60, .inl (fun _ => 0))), (b8, .inl (Y 0, 60, .inl (fun _ => 0))), (b9, .inl (Y 0, 60, .inl (fun _ => 0))), (b10, .inl (Y 0, 60, .inl (fun _ => 0))), (b11, .inl (Y 0, 60, .inl (fun _ => 0))), (b12, .inl (Y 0, 10, .inl (fun _ => 0))), (b13, .inl (Y 0, 40, .inl (fun _ => 0)))]) rfl ?_
  refine g_aload_n F dX7_init_136 0 rfl rfl ?_
  refine g_bipush (v := 10) F dX7_init_137 (by decide) ?_
  refine g_newa (atype := .boolean) (ty := .boolean) (N' := 10) F 1 rfl rfl rfl (fun C h => by cases h) ac_boolean (by decide) (by decide) (by decide) ⟨Nat.le_of_ble_eq_true rfl, Nat.le_of_ble_eq_true rfl⟩ dX7_init_139 (fun b14 => ?_)
  refine g_putF F lay_X7 tyX7 tyX7_ok nmX7 0 rfl rfl 20 (by decide) fl_X7_63 rfl rfl hin rfl (ty := tyX7 20) rfl rfl rfl (Nat.le_of_ble_eq_true rfl) dX7_init_141 (ws' := [(h0, .inr (7, [.int 0, .ref b0, .ref b1, .ref b2, .ref b3, .ref b4, .int 400, .int 60, .int 900, .int 0, .ref b5, .ref b6, .ref b7, .ref b8, .ref b9, .ref b10, .ref b11, .ref b12, .ref b13, .int 0, .ref b14, .null, .null, .null, .int 0, .null, .null, .null, .int 0, .int 0, .null])), (b0, .inl (Y 0, 72, .inl (fun _ => 0))), (b1, .inl (Y 1, 72, .inl (fun _ => 0))), (b2, .inl (Y 1, 6, .inl (fun _ => 0))), (b3, .inl (Y 0, 6, .inl (fun _ => 0))), (b4, .inl (Y 0, 6, .inl (fun _ => 0))), (b5, .inl (Y 0, 60, .inl (fun _ => 0))), (b6, .inl (Y 0, 60, .inl (fun _ => 0))), (b7, .inl (Y 0, 60, .inl (fun _ => 0))), (b8, .inl (Y 0, 60, .inl (fun _ => 0))), (b9, .inl (Y 0, 60, .inl (fun _ => 0))), (b10, .inl (Y 0, 60, .inl (fun _ => 0))), (b11, .inl (Y 0, 60, .inl (fun _ => 0))), (b12, .inl (Y 0, 10, .inl (fun _ => 0))), (b13, .inl (Y 0, 40, .inl (fun _ => 0))), (b14, .inl (Y 1, 10, .inl (fun _ => 0)))]) rfl ?_
  refine g_aload_n F dX7_init_144 0 rfl rfl ?_
  refine g_iconst (v := 2) F dX7_init_145 (by decide) ?_
  refine g_newa (atype := .int) (ty := .int) (N' := 2) F 0 rfl rfl rfl (fun C h => by cases h) ac_int (by decide) (by decide) (by decide) ⟨Nat.le_of_ble_eq_true rfl, Nat.le_of_ble_eq_true rfl⟩ dX7_init_146 (fun b15 => ?_)
  refine g_putF F lay_X7 tyX7 tyX7_ok nmX7 0 rfl rfl 21 (by decide) fl_X7_66 rfl rfl hin rfl (ty := tyX7 21) rfl rfl rfl (Nat.le_of_ble_eq_true rfl) dX7_init_148 (ws' := [(h0, .inr (7, [.int 0, .ref b0, .ref b1, .ref b2, .ref b3, .ref b4, .int 400, .int 60, .int 900, .int 0, .ref b5, .ref b6, .ref b7, .ref b8, .ref b9, .ref b10, .ref b11, .ref b12, .ref b13, .int 0, .ref b14, .ref b15, .null, .null, .int 0, .null, .null, .null, .int 0, .int 0, .null])), (b0, .inl (Y 0, 72, .inl (fun _ => 0))), (b1, .inl (Y 1, 72, .inl (fun _ => 0))), (b2, .inl (Y 1, 6, .inl (fun _ => 0))), (b3, .inl (Y 0, 6, .inl (fun _ => 0))), (b4, .inl (Y 0, 6, .inl (fun _ => 0))), (b5, .inl (Y 0, 60, .inl (fun _ => 0))), (b6, .inl (Y 0, 60, .inl (fun _ => 0))), (b7, .inl (Y 0, 60, .inl (fun _ => 0))), (b8, .inl (Y 0, 60, .inl (fun _ => 0))), (b9, .inl (Y 0, 60, .inl (fun _ => 0))), (b10, .inl (Y 0, 60, .inl (fun _ => 0))), (b11, .inl (Y 0, 60, .inl (fun _ => 0))), (b12, .inl (Y 0, 10, .inl (fun _ => 0))), (b13, .inl (Y 0, 40, .inl (fun _ => 0))), (b14, .inl (Y 1, 10, .inl (fun _ => 0))), (b15, .inl (Y 0, 2, .inl (fun _ => 0)))]) rfl ?_
  refine g_aload_n F dX7_init_151 0 rfl rfl ?_
  refine g_iconst (v := 2) F dX7_init_152 (by decide) ?_
  refine g_newa (atype := .int) (ty := .int) (N' := 2) F 0 rfl rfl rfl (fun C h => by cases h) ac_int (by decide) (by decide) (by decide) ⟨Nat.le_of_ble_eq_true rfl, Nat.le_of_ble_eq_true rfl⟩ dX7_init_153 (fun b16 => ?_)
  refine g_putF F lay_X7 tyX7 tyX7_ok nmX7 0 rfl rfl 22 (by decide) fl_X7_69 rfl rfl hin rfl (ty := tyX7 22) rfl rfl rfl (Nat.le_of_ble_eq_true rfl) dX7_init_155 (ws' := [(h0, .inr (7, [.int 0, .ref b0, .ref b1, .ref b2, .ref b3, .ref b4, .int 400, .int 60, .int 900, .int 0, .ref b5, .ref b6, .ref b7, .ref b8, .ref b9, .ref b10, .ref b11, .ref b12, .ref b13, .int 0, .ref b14, .ref b15, .ref b16, .null, .int 0, .null, .null, .null, .int 0, .int 0, .null])), (b0, .inl (Y 0, 72, .inl (fun _ => 0))), (b1, .inl (Y 1, 72, .inl (fun _ => 0))), (b2, .inl (Y 1, 6, .inl (fun _ => 0))), (b3, .inl (Y 0, 6, .inl (fun _ => 0))), (b4, .inl (Y 0, 6, .inl (fun _ => 0))), (b5, .inl (Y 0, 60, .inl (fun _ => 0))), (b6, .inl (Y 0, 60, .inl (fun _ => 0))), (b7, .inl (Y 0, 60, .inl (fun _ => 0))), (b8, .inl (Y 0, 60, .inl (fun _ => 0))), (b9, .inl (Y 0, 60, .inl (fun _ => 0))), (b10, .inl (Y 0, 60, .inl (fun _ => 0))), (b11, .inl (Y 0, 60, .inl (fun _ => 0))), (b12, .inl (Y 0, 10, .inl (fun _ => 0))), (b13, .inl (Y 0, 40, .inl (fun _ => 0))), (b14, .inl (Y 1, 10, .inl (fun _ => 0))), (b15, .inl (Y 0, 2, .inl (fun _ => 0))), (b16, .inl (Y 0, 2, .inl (fun _ => 0)))]) rfl ?_
  refine g_aload_n F dX7_init_158 0 rfl rfl ?_
  refine g_iconst (v := 2) F dX7_init_159 (by decide) ?_
  refine g_newa (atype := .int) (ty := .int) (N' := 2) F 0 rfl rfl rfl (fun C h => by cases h) ac_int (by decide) (by decide) (by decide) ⟨Nat.le_of_ble_eq_true rfl, Nat.le_of_ble_eq_true rfl⟩ dX7_init_160 (fun b17 => ?_)
  refine g_putF F lay_X7 tyX7 tyX7_ok nmX7 0 rfl rfl 23 (by decide) fl_X7_72 rfl rfl hin rfl (ty := tyX7 23) rfl rfl rfl (Nat.le_of_ble_eq_true rfl) dX7_init_162 (ws' := [(h0, .inr (7, [.int 0, .ref b0, .ref b1, .ref b2, .ref b3, .ref b4, .int 400, .int 60, .int 900, .int 0, .ref b5, .ref b6, .ref b7, .ref b8, .ref b9, .ref b10, .ref b11, .ref b12, .ref b13, .int 0, .ref b14, .ref b15, .ref b16, .ref b17, .int 0, .null, .null, .null, .int 0, .int 0, .null])), (b0, .inl (Y 0, 72, .inl (fun _ => 0))), (b1, .inl (Y 1, 72, .inl (fun _ => 0))), (b2, .inl (Y 1, 6, .inl (fun _ => 0))), (b3, .inl (Y 0, 6, .inl (fun _ => 0))), (b4, .inl (Y 0, 6, .inl (fun _ => 0))), (b5, .inl (Y 0, 60, .inl (fun _ => 0))), (b6, .inl (Y 0, 60, .inl (fun _ => 0))), (b7, .inl (Y 0, 60, .inl (fun _ => 0))), (b8, .inl (Y 0, 60, .inl (fun _ => 0))), (b9, .inl (Y 0, 60, .inl (fun _ => 0))), (b10, .inl (Y 0, 60, .inl (fun _ => 0))), (b11, .inl (Y 0, 60, .inl (fun _ => 0))), (b12, .inl (Y 0, 10, .inl (fun _ => 0))), (b13, .inl (Y 0, 40, .inl (fun _ => 0))), (b14, .inl (Y 1, 10, .inl (fun _ => 0))), (b15, .inl (Y 0, 2, .inl (fun _ => 0))), (b16, .inl (Y 0, 2, .inl (fun _ => 0))), (b17, .inl (Y 0, 2, .inl (fun _ => 0)))]) rfl ?_
  refine g_aload_n F dX7_init_165 0 rfl rfl ?_
  refine g_bipush (v := 20) F dX7_init_166 (by decide) ?_
  refine g_newa (atype := .int) (ty := .int) (N' := 20) F 0 rfl rfl rfl (fun C h => by cases h) ac_int (by decide) (by decide) (by decide) ⟨Nat.le_of_ble_eq_true rfl, Nat.le_of_ble_eq_true rfl⟩ dX7_init_168 (fun b18 => ?_)
  refine g_putF F lay_X7 tyX7 tyX7_ok nmX7 0 rfl rfl 25 (by decide) fl_X7_75 rfl rfl hin rfl (ty := tyX7 25) rfl rfl rfl (Nat.le_of_ble_eq_true rfl) dX7_init_170 (ws' := [(h0, .inr (7, [.int 0, .ref b0, .ref b1, .ref b2, .ref b3, .ref b4, .int 400, .int 60, .int 900, .int 0, .ref b5, .ref b6, .ref b7, .ref b8, .ref b9, .ref b10, .ref b11, .ref b12, .ref b13, .int 0, .ref b14, .ref b15, .ref b16, .ref b17, .int 0, .ref b18, .null, .null, .int 0, .int 0, .null])), (b0, .inl (Y 0, 72, .inl (fun _ => 0))), (b1, .inl (Y 1, 72, .inl (fun _ => 0))), (b2, .inl (Y 1, 6, .inl (fun _ => 0))), (b3, .inl (Y 0, 6, .inl (fun _ => 0))), (b4, .inl (Y 0, 6, .inl (fun _ => 0))), (b5, .inl (Y 0, 60, .inl (fun _ => 0))), (b6, .inl (Y 0, 60, .inl (fun _ => 0))), (b7, .inl (Y 0, 60, .inl (fun _ => 0))), (b8, .inl (Y 0, 60, .inl (fun _ => 0))), (b9, .inl (Y 0, 60, .inl (fun _ => 0))), (b10, .inl (Y 0, 60, .inl (fun _ => 0))), (b11, .inl (Y 0, 60, .inl (fun _ => 0))), (b12, .inl (Y 0, 10, .inl (fun _ => 0))), (b13, .inl (Y 0, 40, .inl (fun _ => 0))), (b14, .inl (Y 1, 10, .inl (fun _ => 0))), (b15, .inl (Y 0, 2, .inl (fun _ => 0))), (b16, .inl (Y 0, 2, .inl (fun _ => 0))), (b17, .inl (Y 0, 2, .inl (fun _ => 0))), (b18, .inl (Y 0, 20, .inl (fun _ => 0)))]) rfl ?_
  refine g_aload_n F dX7_init_173 0 rfl rfl ?_
  refine g_bipush (v := 20) F dX7_init_174 (by decide) ?_
  refine g_newa (atype := .int) (ty := .int) (N' := 20) F 0 rfl rfl rfl (fun C h => by cases h) ac_int (by decide) (by decide) (by decide) ⟨Nat.le_of_ble_eq_true rfl, Nat.le_of_ble_eq_true rfl⟩ dX7_init_176 (fun b19 => ?_)
  refine g_putF F lay_X7 tyX7 tyX7_ok nmX7 0 rfl rfl 26 (by decide) fl_X7_78 rfl rfl hin rfl (ty := tyX7 26) rfl rfl rfl (Nat.le_of_ble_eq_true rfl) dX7_init_178 (ws' := [(h0, .inr (7, [.int 0, .ref b0, .ref b1, .ref b2, .ref b3, .ref b4, .int 400, .int 60, .int 900, .int 0, .ref b5, .ref b6, .ref b7, .ref b8, .ref b9, .ref b10, .ref b11, .ref b12, .ref b13, .int 0, .ref b14, .ref b15, .ref b16, .ref b17, .int 0, .ref b18, .ref b19, .null, .int 0, .int 0, .null])), (b0, .inl (Y 0, 72, .inl (fun _ => 0))), (b1, .inl (Y 1, 72, .inl (fun _ => 0))), (b2, .inl (Y 1, 6, .inl (fun _ => 0))), (b3, .inl (Y 0, 6, .inl (fun _ => 0))), (b4, .inl (Y 0, 6, .inl (fun _ => 0))), (b5, .inl (Y 0, 60, .inl (fun _ => 0))), (b6, .inl (Y 0, 60, .inl (fun _ => 0))), (b7, .inl (Y 0, 60, .inl (fun _ => 0))), (b8, .inl (Y 0, 60, .inl (fun _ => 0))), (b9, .inl (Y 0, 60, .inl (fun _ => 0))), (b10, .inl (Y 0, 60, .inl (fun _ => 0))), (b11, .inl (Y 0, 60, .inl (fun _ => 0))), (b12, .inl (Y 0, 10, .inl (fun _ => 0))), (b13, .inl (Y 0, 40, .inl (fun _ => 0))), (b14, .inl (Y 1, 10, .inl (fun _ => 0))), (b15, .inl (Y 0, 2, .inl (fun _ => 0))), (b16, .inl (Y 0, 2, .inl (fun _ => 0))), (b17, .inl (Y 0, 2, .inl (fun _ => 0))), (b18, .inl (Y 0, 20, .inl (fun _ => 0))), (b19, .inl (Y 0, 20, .inl (fun _ => 0)))]) rfl ?_
  refine g_aload_n F dX7_init_181 0 rfl rfl ?_
  refine g_bipush (v := 20) F dX7_init_182 (by decide) ?_
  refine g_newa (atype := .int) (ty := .int) (N' := 20) F 0 rfl rfl rfl (fun C h => by cases h) ac_int (by decide) (by decide) (by decide) ⟨Nat.le_of_ble_eq_true rfl, Nat.le_of_ble_eq_true rfl⟩ dX7_init_184 (fun b20 => ?_)
  refine g_putF F lay_X7 tyX7 tyX7_ok nmX7 0 rfl rfl 27 (by decide) fl_X7_81 rfl rfl hin rfl (ty := tyX7 27) rfl rfl rfl (Nat.le_of_ble_eq_true rfl) dX7_init_186 (ws' := [(h0, .inr (7, [.int 0, .ref b0, .ref b1, .ref b2, .ref b3, .ref b4, .int 400, .int 60, .int 900, .int 0, .ref b5, .ref b6, .ref b7, .ref b8, .ref b9, .ref b10, .ref b11, .ref b12, .ref b13, .int 0, .ref b14, .ref b15, .ref b16, .ref b17, .int 0, .ref b18, .ref b19, .ref b20, .int 0, .int 0, .null])), (b0, .inl (Y 0, 72, .inl (fun _ => 0))), (b1, .inl (Y 1, 72, .inl (fun _ => 0))), (b2, .inl (Y 1, 6, .inl (fun _ => 0))), (b3, .inl (Y 0, 6, .inl (fun _ => 0))), (b4, .inl (Y 0, 6, .inl (fun _ => 0))), (b5, .inl (Y 0, 60, .inl (fun _ => 0))), (b6, .inl (Y 0, 60, .inl (fun _ => 0))), (b7, .inl (Y 0, 60, .inl (fun _ => 0))), (b8, .inl (Y 0, 60, .inl (fun _ => 0))), (b9, .inl (Y 0, 60, .inl (fun _ => 0))), (b10, .inl (Y 0, 60, .inl (fun _ => 0))), (b11, .inl (Y 0, 60, .inl (fun _ => 0))), (b12, .inl (Y 0, 10, .inl (fun _ => 0))), (b13, .inl (Y 0, 40, .inl (fun _ => 0))), (b14, .inl (Y 1, 10, .inl (fun _ => 0))), (b15, .inl (Y 0, 2, .inl (fun _ => 0))), (b16, .inl (Y 0, 2, .inl (fun _ => 0))), (b17, .inl (Y 0, 2, .inl (fun _ => 0))), (b18, .inl (Y 0, 20, .inl (fun _ => 0))), (b19, .inl (Y 0, 20, .inl (fun _ => 0))), (b20, .inl (Y 0, 20, .inl (fun _ => 0)))]) rfl ?_
  refine g_aload_n F dX7_init_189 0 rfl rfl ?_
  refine g_bipush (v := 6) F dX7_init_190 (by decide) ?_
  refine g_newa (atype := .int) (ty := .int) (N' := 6) F 0 rfl rfl rfl (fun C h => by cases h) ac_int (by decide) (by decide) (by decide) ⟨Nat.le_of_ble_eq_true rfl, Nat.le_of_ble_eq_true rfl⟩ dX7_init_192 (fun b21 => ?_)
  refine g_putF F lay_X7 tyX7 tyX7_ok nmX7 0 rfl rfl 30 (by decide) fl_X7_84 rfl rfl hin rfl (ty := tyX7 30) rfl rfl rfl (Nat.le_of_ble_eq_true rfl) dX7_init_194 (ws' := [(h0, .inr (7, [.int 0, .ref b0, .ref b1, .ref b2, .ref b3, .ref b4, .int 400, .int 60, .int 900, .int 0, .ref b5, .ref b6, .ref b7, .ref b8, .ref b9, .ref b10, .ref b11, .ref b12, .ref b13, .int 0, .ref b14, .ref b15, .ref b16, .ref b17, .int 0, .ref b18, .ref b19, .ref b20, .int 0, .int 0, .ref b21])), (b0, .inl (Y 0, 72, .inl (fun _ => 0))), (b1, .inl (Y 1, 72, .inl (fun _ => 0))), (b2, .inl (Y 1, 6, .inl (fun _ => 0))), (b3, .inl (Y 0, 6, .inl (fun _ => 0))), (b4, .inl (Y 0, 6, .inl (fun _ => 0))), (b5, .inl (Y 0, 60, .inl (fun _ => 0))), (b6, .inl (Y 0, 60, .inl (fun _ => 0))), (b7, .inl (Y 0, 60, .inl (fun _ => 0))), (b8, .inl (Y 0, 60, .inl (fun _ => 0))), (b9, .inl (Y 0, 60, .inl (fun _ => 0))), (b10, .inl (Y 0, 60, .inl (fun _ => 0))), (b11, .inl (Y 0, 60, .inl (fun _ => 0))), (b12, .inl (Y 0, 10, .inl (fun _ => 0))), (b13, .inl (Y 0, 40, .inl (fun _ => 0))), (b14, .inl (Y 1, 10, .inl (fun _ => 0))), (b15, .inl (Y 0, 2, .inl (fun _ => 0))), (b16, .inl (Y 0, 2, .inl (fun _ => 0))), (b17, .inl (Y 0, 2, .inl (fun _ => 0))), (b18, .inl (Y 0, 20, .inl (fun _ => 0))), (b19, .inl (Y 0, 20, .inl (fun _ => 0))), (b20, .inl (Y 0, 20, .inl (fun _ => 0))), (b21, .inl (Y 0, 6, .inl (fun _ => 0)))]) rfl ?_
  refine g_widen (k := 22) (n := 714) (Nat.le_of_ble_eq_true rfl) (Nat.le_of_ble_eq_true rfl) ?_
  exact tX7_init (q := fun i => ([h0, b0, b1, b2, b3, b4, b5, b6, b7, b8, b9, b10, b11, b12, b13, b14, b15, b16, b17, b18, b19, b20, b21] : List Nat).getD i 0) (u := uM0) F hr hlk hX
