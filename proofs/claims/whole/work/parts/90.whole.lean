/-! THE LAW FROM ITS ENTRY TO ITS LOOP -/
theorem perm3 (a b c : va_W) : (((([] : va_W) ++ a ++ []) ++ b ++ []) ++ c).Perm (b ++ (a ++ c)) := by
  rw [List.nil_append, List.append_nil, List.append_nil, List.append_assoc]
  exact List.perm_append_comm_assoc a b c
theorem g_newl {p : Program} {l : Launch} {e : Env} {R : Room} {s : State} {m : MethodId} {args : Array Value} {below : List Frame} {meth : Method} {c : Code} {D : va_G} {Y : Nat → ClassId} {A : Nat → Prop} {cc : ByteArray} {nL : Nat} {own : String} {cells slots : Nat} {Q : State → Prop} {ws : va_W} {pc : Nat} {lv : List (Nat × Value)} {st : List Value} (F : Fx p s m args c D Y A cc nL own) {n : Int32} {N' : Nat} (hn : ¬ n < 0) (hN : n.toNatClampNeg = N') (hbytes : N' * componentBytes .long ≤ 536870912) (hR : cells + 1 ≤ R.cells ∧ slots + N' ≤ R.slots) (hd : decode cc pc = .ok (.newarray .long, 2)) (kk : ∀ q, GW p l e R s m args below meth c D A nL (cells + 1) (slots + N') Q (ws ++ [(q, .inl (Y 2, N', .inr (.inl (fun _ => 0))))]) (pc + 2) lv (.ref q :: st)) : GW p l e R s m args below meth c D A nL cells slots Q ws pc lv (.int n :: st) := by
  intro H locs ls hP hD hS hl
  refine va_newa (atype := .long) (ty := .long) F.1 F.2.1 (F.2.2.2.2.1 _ ac_long) rfl F.2.2.2.2.2.1.1 hP hD hS F.2.2.2.2.2.2 (a0 := (N', .inr (.inl (fun _ => 0)))) (fun cA => rfl) hn hN hbytes hR.1 hR.2 hd (fun q cA H1 hK1 hP1 hD1 hS1 => ?_)
  have e1 := (hK1.2 (tys Y).length (cA, .long) (by rw [List.getElem?_append_right (Nat.le_refl _), Nat.sub_self]; rfl)).2
  have e2 := (F.2.2.2.2.2.1.1.2 2 (Y 2, .long) rfl).2
  have e3 : cA = Y 2 := Option.some.inj (e1.symm.trans e2)
  subst e3
  exact kk q H1 locs ls hP1 hD1 hS1 hl
theorem arr_of {args : Array Value} {s : State} {ty : FieldType} (hno : ∀ C, ty ≠ .object C) (h : (Cond.arrayClass ty).before args s = true) : ∃ cA, ArrOfT s cA ty ∧ va_RA s cA ty := by
  obtain ⟨cA, kA, comp, f1, f2, f3⟩ := Cond.arrayClass_spec h
  refine ⟨cA, fun N z => ⟨(fun k h => by cases h), kA, f2, comp, f3⟩, ?_⟩
  cases ty with
  | object C => exact absurd rfl (hno C)
  | _ => exact f1
theorem kx_start {s : State} {b : Nat} {D : va_G} {Y : Nat → ClassId} (hts : ∀ w ∈ lw_tbl, w.before #[Value.ref b] s = true) (hgv : (Jvm.Cond.and given_1 narrow_1).before #[Value.ref b] s = true) (hK : KK D Y s) : KX (fun q => s.heap.size ≤ q) s := by
  have hq := flat_of_before _ hgv
  have hA : ∀ a : Nat, a < s.heap.size → ¬ s.heap.size ≤ a := fun a h => by omega
  obtain ⟨-, hfc, -⟩ := hK.1.1 6 (RX6, TX6, 12) rfl
  refine ⟨⟨⟨fun k => ?_, fun x hx => va_Nw.of rfl (hts _ ((show ∀ x ∈ DCL, Cond.declares x ∈ lw_tbl by decide +kernel) x hx))⟩, fun z hz => ?_, ?_, ?_⟩, ?_⟩
  · rcases exN_cases k with e | e | e <;> rw [e]
    · exact va_Nw.of rfl (hts _ (show Cond.castable (exN 1) (exN 1) ∈ lw_tbl by decide +kernel))
    · exact va_Nw.of rfl (hts _ (show Cond.castable (exN 2) (exN 2) ∈ lw_tbl by decide +kernel))
    · exact va_Nw.of rfl (hts _ (show Cond.castable (exN 3) (exN 3) ∈ lw_tbl by decide +kernel))
  · have h1 := hts _ ((show ∀ z ∈ strs, Cond.stringRef RX6 z.1 z.2 ∈ lw_tbl by decide +kernel) z hz)
    obtain ⟨-, -, -, sa, -, -, -, -, -, hev⟩ := Cond.stringRef_spec hfc h1
    exact ⟨sa, vk_R.of h1 hev⟩
  · exact vx_Zqof (hts _ (by decide +kernel)) (hts _ (show Cond.initialized Bundle.tN ∈ lw_tbl by decide +kernel)) (hq _ (by decide +kernel)) hA
  · exact vx_Zqof (hts _ (by decide +kernel)) (hts _ (show Cond.initialized Bundle.tN ∈ lw_tbl by decide +kernel)) (hq _ (by decide +kernel)) hA
  · intro i j i1 i3 j1 j3 hij
    have ci : i = 1 ∨ i = 2 ∨ i = 3 := by omega
    have cj : j = 1 ∨ j = 2 ∨ j = 3 := by omega
    rcases ci with rfl | rfl | rfl <;> rcases cj with rfl | rfl | rfl
    · exact absurd rfl hij
    · exact va_Nc.of (hq (.not (.castable (exN 1) (exN 2))) (by decide +kernel))
    · exact va_Nc.of (hq (.not (.castable (exN 1) (exN 3))) (by decide +kernel))
    · exact va_Nc.of (hq (.not (.castable (exN 2) (exN 1))) (by decide +kernel))
    · exact absurd rfl hij
    · exact va_Nc.of (hq (.not (.castable (exN 2) (exN 3))) (by decide +kernel))
    · exact va_Nc.of (hq (.not (.castable (exN 3) (exN 1))) (by decide +kernel))
    · exact va_Nc.of (hq (.not (.castable (exN 3) (exN 2))) (by decide +kernel))
    · exact absurd rfl hij
theorem kk_start {s : State} {b : Nat} (hts : ∀ w ∈ lw_tbl, w.before #[Value.ref b] s = true) : ∃ D Y, KK D Y s := by
  have ht : ∀ w ∈ TBL, w.before #[Value.ref b] s = true := fun w hw => hts w (List.mem_filter.mp hw).1
  obtain ⟨c0, i0, k0⟩ := u_known ht lay_X0 (ht _ it_X0)
  obtain ⟨c1, i1, k1⟩ := u_known ht lay_X1 (ht _ it_X1)
  obtain ⟨c2, i2, k2⟩ := u_known ht lay_X2 (ht _ it_X2)
  obtain ⟨c3, i3, k3⟩ := u_known ht lay_X3 (ht _ it_X3)
  obtain ⟨c4, i4, k4⟩ := u_known ht lay_X4 (ht _ it_X4)
  obtain ⟨c5, i5, k5⟩ := u_known ht lay_X5 (ht _ it_X5)
  obtain ⟨c6, i6, k6⟩ := u_known ht lay_X6 (ht _ it_X6)
  obtain ⟨c7, i7, k7⟩ := u_known ht lay_X7 (ht _ it_X7)
  obtain ⟨y0, z0⟩ := arr_of (ty := .int) (fun C h => by cases h) (ht _ ac_int)
  obtain ⟨y1, z1⟩ := arr_of (ty := .boolean) (fun C h => by cases h) (ht _ ac_boolean)
  obtain ⟨y2, z2⟩ := arr_of (ty := .long) (fun C h => by cases h) (ht _ ac_long)
  refine ⟨(fun c => match c with | 0 => c0 | 1 => c1 | 2 => c2 | 3 => c3 | 4 => c4 | 5 => c5 | 6 => c6 | _ => c7, fun c => match c with | 0 => i0 | 1 => i1 | 2 => i2 | 3 => i3 | 4 => i4 | 5 => i5 | 6 => i6 | _ => i7), fun k => match k with | 0 => y0 | 1 => y1 | _ => y2, ⟨fun c q hq => ?_, fun k q hq => ?_⟩, va_Nw.of rfl (hts _ (show Cond.methodLinkNest RX4 42 yX6_restsOnBox RX6 ∈ lw_tbl by decide +kernel)), va_Nw.of rfl (hts _ (show Cond.methodLinkNest RX4 58 yX6_bayOf RX6 ∈ lw_tbl by decide +kernel)), va_Nw.of rfl (hts _ (show Cond.methodLinkNest RX4 68 yX6_rowOf RX6 ∈ lw_tbl by decide +kernel))⟩
  · match c, hq with
    | 0, hq => cases hq; exact k0
    | 1, hq => cases hq; exact k1
    | 2, hq => cases hq; exact k2
    | 3, hq => cases hq; exact k3
    | 4, hq => cases hq; exact k4
    | 5, hq => cases hq; exact k5
    | 6, hq => cases hq; exact k6
    | 7, hq => cases hq; exact k7
    | n + 8, hq => cases hq
  · match k, hq with
    | 0, hq => cases hq; exact z0
    | 1, hq => cases hq; exact z1
    | 2, hq => cases hq; exact z2
    | n + 3, hq => cases hq
set_option maxHeartbeats 4000000 in
set_option maxRecDepth 20000 in
/-- YOUR PART: from the entry, for every script of at most 3072 ints, the law comes to its end with true ('hflags': the launch's flags, for a law that throws: no stack traces) -/
theorem whole_start {p : Program} {e : Env} {s : State} {m : MethodId} {below : List Frame} {meth : Method} {c : Code} (l : Launch) (hflags : l.flags = flags0) {b L : Nat} {xs : Nat → Int32} (hL : L ≤ 3072) (C0 : lw_At p s m meth c b L xs) : W p l e room_1 s m #[Value.ref b] below meth c s.heap [] 0 0 (lw_Z below #[Value.ref b] s) (entryFrame m ([Value.ref b] : List Value).toArray 7) := by
  obtain ⟨hexec, hcode, hret, hml, hown, hts, hX, hbl, hlocks, hgv⟩ := C0
  have hl9 : l.stackTraces = false := by
    unfold Launch.stackTraces; rw [hflags]; decide +kernel
  obtain ⟨D, Y, hKK⟩ := kk_start hts
  have hKX := kx_start hts hgv hKK
  have F : Fx p s m #[Value.ref b] c D Y (fun q => s.heap.size ≤ q) code 7 RL := ⟨hexec, hcode, hml, hown, fun w hw => hts w (List.mem_filter.mp hw).1, hKK, fun q h => h⟩
  obtain ⟨r, uM1, hI, hR⟩ := init_rel
  have body : GW p l e room_1 s m #[Value.ref b] below meth c D (fun q => s.heap.size ≤ q) 7 0 0 (lw_Z below #[Value.ref b] s) [] 0 [(0, .ref b)] [] := by
    refine g_new (ci := 6) F lay_X6 tyX6 tyX6_ok cl_L_8 it_X6 in_X6 rfl [.null, .null, .null, .null, .null, .null, .int 0, .int 0, .int 0, .int 0, .int 0, .int 0] (by decide +kernel) ⟨Nat.le_of_ble_eq_true rfl, Nat.le_of_ble_eq_true rfl⟩ dL_law_0 (fun n1 => ?_)
    refine g_dup F dL_law_3 rfl ?_
    refine g_callI (n := 0) (As := []) F [] [] (kX6_init (h0 := n1)) rfl (by unfold mOK; decide +kernel) rfl rfl cd_yX6_init ml_L_87 im_yX6_init in_X6 ⟨Nat.le_of_ble_eq_true rfl, Nat.le_of_ble_eq_true rfl⟩ ⟨Nat.le_of_ble_eq_true rfl, Nat.le_of_ble_eq_true rfl⟩ rfl (Nat.le_of_ble_eq_true rfl) dL_law_4 ?_
    rintro w1 ⟨q, rfl, rfl⟩
    refine g_astore_n (lv' := [(1, .ref (q 0)), (0, .ref b)]) F dL_law_7 rfl (by decide) rfl ?_
    refine g_new (ci := 7) F lay_X7 tyX7 tyX7_ok cl_L_88 it_X7 in_X7 rfl [.int 0, .null, .null, .null, .null, .null, .int 0, .int 0, .int 0, .int 0, .null, .null, .null, .null, .null, .null, .null, .null, .null, .int 0, .null, .null, .null, .null, .int 0, .null, .null, .null, .int 0, .int 0, .null] (by decide +kernel) ⟨Nat.le_of_ble_eq_true rfl, Nat.le_of_ble_eq_true rfl⟩ dL_law_8 (fun n2 => ?_)
    refine g_dup F dL_law_11 rfl ?_
    refine g_callI (n := 0) (As := []) F ([] ++ wC Y q uI ++ []) [] (kX7_init (h0 := n2) hI) (List.append_nil _).symm (by unfold mOK; decide +kernel) rfl rfl cd_yX7_init ml_L_90 im_yX7_init in_X7 ⟨Nat.le_of_ble_eq_true rfl, Nat.le_of_ble_eq_true rfl⟩ ⟨Nat.le_of_ble_eq_true rfl, Nat.le_of_ble_eq_true rfl⟩ rfl (Nat.le_of_ble_eq_true rfl) dL_law_12 ?_
    rintro w1 ⟨q2, rfl, rfl⟩
    refine g_astore_n (lv' := [(2, .ref (q2 0)), (1, .ref (q 0)), (0, .ref b)]) F dL_law_15 rfl (by decide) rfl ?_
    refine g_iconst (v := 1) F dL_law_16 (by decide) ?_
    refine g_newl (N' := 1) F (by decide) (by decide) (by decide) ⟨Nat.le_of_ble_eq_true rfl, Nat.le_of_ble_eq_true rfl⟩ dL_law_17 (fun o => ?_)
    refine g_astore_n (lv' := [(3, .ref o), (2, .ref (q2 0)), (1, .ref (q 0)), (0, .ref b)]) F dL_law_19 rfl (by decide) rfl ?_
    refine g_iconst (v := 0) F dL_law_20 (by decide) ?_
    refine g_istore (lv' := [(4, .int (nI (6 * 0))), (3, .ref o), (2, .ref (q2 0)), (1, .ref (q 0)), (0, .ref b)]) F dL_law_21 (by decide) rfl ?_
    refine g_perm (ws' := wM Y q2 uM1 ++ (wC Y q uI ++ outW Y o (fun _ => 0))) (fun x hx => (perm3 _ _ _).mem_iff.mpr hx) (fun h => ((perm3 _ _ _).map _).nodup_iff.mp h) ?_
    exact law_loop F hret hlocks ⟨hX, hbl, fun h => absurd h (Nat.not_le.mpr hbl)⟩ hKX hl9 hL sall (L + 1) 0 (Nat.zero_le _) (by omega) uI uM1 (fun _ => 0) hR
  have hl := lv_entry [.ref b] (n := 7) (show 1 ≤ 7 by decide)
  rw [lg_entry_eq]
  exact body s.heap [] _ (fun k q h => (by cases h)) ⟨fun i j p q h => (by cases h), fun k q h => (by cases h)⟩ va_S.rf hl
