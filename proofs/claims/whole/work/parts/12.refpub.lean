/-! the reference's public methods (by program: wip/whole/gen/gen.py) -/
theorem dX7_plug_0 : decode cX7_plug 0 = .ok (.aload_n 0, 1) := by decide +kernel
theorem dX7_plug_1 : decode cX7_plug 1 = .ok (.iload_n 1, 1) := by decide +kernel
theorem dX7_plug_2 : decode cX7_plug 2 = .ok (.invokestatic 103, 3) := by decide +kernel
theorem dX7_plug_5 : decode cX7_plug 5 = .ok (.ifCond .eq 7, 3) := by decide +kernel
theorem dX7_plug_8 : decode cX7_plug 8 = .ok (.iconst 0, 1) := by decide +kernel
theorem dX7_plug_9 : decode cX7_plug 9 = .ok (.goto 4, 3) := by decide +kernel
theorem dX7_plug_12 : decode cX7_plug 12 = .ok (.iconst 1, 1) := by decide +kernel
theorem dX7_plug_13 : decode cX7_plug 13 = .ok (.putfield 87, 3) := by decide +kernel
theorem dX7_plug_16 : decode cX7_plug 16 = .ok (.aload_n 0, 1) := by decide +kernel
theorem dX7_plug_17 : decode cX7_plug 17 = .ok (.getfield 87, 3) := by decide +kernel
theorem dX7_plug_20 : decode cX7_plug 20 = .ok (.ifCond .le 5, 3) := by decide +kernel
theorem dX7_plug_23 : decode cX7_plug 23 = .ok (.iconst 0, 1) := by decide +kernel
theorem dX7_plug_24 : decode cX7_plug 24 = .ok (.ireturn, 1) := by decide +kernel
theorem dX7_plug_25 : decode cX7_plug 25 = .ok (.iload_n 1, 1) := by decide +kernel
theorem dX7_plug_26 : decode cX7_plug 26 = .ok (.invokestatic 107, 3) := by decide +kernel
theorem dX7_plug_29 : decode cX7_plug 29 = .ok (.istore_n 2, 1) := by decide +kernel
theorem dX7_plug_30 : decode cX7_plug 30 = .ok (.aload_n 0, 1) := by decide +kernel
theorem dX7_plug_31 : decode cX7_plug 31 = .ok (.aload_n 0, 1) := by decide +kernel
theorem dX7_plug_32 : decode cX7_plug 32 = .ok (.getfield 7, 3) := by decide +kernel
theorem dX7_plug_35 : decode cX7_plug 35 = .ok (.iload_n 2, 1) := by decide +kernel
theorem dX7_plug_36 : decode cX7_plug 36 = .ok (.iaload, 1) := by decide +kernel
theorem dX7_plug_37 : decode cX7_plug 37 = .ok (.iconst (-1), 1) := by decide +kernel
theorem dX7_plug_38 : decode cX7_plug 38 = .ok (.if_icmp .eq 22, 3) := by decide +kernel
theorem dX7_plug_41 : decode cX7_plug 41 = .ok (.aload_n 0, 1) := by decide +kernel
theorem dX7_plug_42 : decode cX7_plug 42 = .ok (.getfield 45, 3) := by decide +kernel
theorem dX7_plug_45 : decode cX7_plug 45 = .ok (.aload_n 0, 1) := by decide +kernel
theorem dX7_plug_46 : decode cX7_plug 46 = .ok (.getfield 7, 3) := by decide +kernel
theorem dX7_plug_49 : decode cX7_plug 49 = .ok (.iload_n 2, 1) := by decide +kernel
theorem dX7_plug_50 : decode cX7_plug 50 = .ok (.iaload, 1) := by decide +kernel
theorem dX7_plug_51 : decode cX7_plug 51 = .ok (.iaload, 1) := by decide +kernel
theorem dX7_plug_52 : decode cX7_plug 52 = .ok (.iconst 1, 1) := by decide +kernel
theorem dX7_plug_53 : decode cX7_plug 53 = .ok (.if_icmp .ne 7, 3) := by decide +kernel
theorem dX7_plug_56 : decode cX7_plug 56 = .ok (.iconst 2, 1) := by decide +kernel
theorem dX7_plug_57 : decode cX7_plug 57 = .ok (.goto 4, 3) := by decide +kernel
theorem dX7_plug_60 : decode cX7_plug 60 = .ok (.iconst 0, 1) := by decide +kernel
theorem dX7_plug_61 : decode cX7_plug 61 = .ok (.putfield 87, 3) := by decide +kernel
theorem dX7_plug_64 : decode cX7_plug 64 = .ok (.aload_n 0, 1) := by decide +kernel
theorem dX7_plug_65 : decode cX7_plug 65 = .ok (.getfield 87, 3) := by decide +kernel
theorem dX7_plug_68 : decode cX7_plug 68 = .ok (.ifCond .le 5, 3) := by decide +kernel
theorem dX7_plug_71 : decode cX7_plug 71 = .ok (.iconst 0, 1) := by decide +kernel
theorem dX7_plug_72 : decode cX7_plug 72 = .ok (.ireturn, 1) := by decide +kernel
theorem dX7_plug_73 : decode cX7_plug 73 = .ok (.aload_n 0, 1) := by decide +kernel
theorem dX7_plug_74 : decode cX7_plug 74 = .ok (.getfield 13, 3) := by decide +kernel
theorem dX7_plug_77 : decode cX7_plug 77 = .ok (.iload_n 2, 1) := by decide +kernel
theorem dX7_plug_78 : decode cX7_plug 78 = .ok (.aload_n 0, 1) := by decide +kernel
theorem dX7_plug_79 : decode cX7_plug 79 = .ok (.getfield 13, 3) := by decide +kernel
theorem dX7_plug_82 : decode cX7_plug 82 = .ok (.iload_n 2, 1) := by decide +kernel
theorem dX7_plug_83 : decode cX7_plug 83 = .ok (.baload, 1) := by decide +kernel
theorem dX7_plug_84 : decode cX7_plug 84 = .ok (.ifCond .ne 7, 3) := by decide +kernel
theorem dX7_plug_87 : decode cX7_plug 87 = .ok (.iconst 1, 1) := by decide +kernel
theorem dX7_plug_88 : decode cX7_plug 88 = .ok (.goto 4, 3) := by decide +kernel
theorem dX7_plug_91 : decode cX7_plug 91 = .ok (.iconst 0, 1) := by decide +kernel
theorem dX7_plug_92 : decode cX7_plug 92 = .ok (.bastore, 1) := by decide +kernel
theorem dX7_plug_93 : decode cX7_plug 93 = .ok (.aload_n 0, 1) := by decide +kernel
theorem dX7_plug_94 : decode cX7_plug 94 = .ok (.getfield 13, 3) := by decide +kernel
theorem dX7_plug_97 : decode cX7_plug 97 = .ok (.iload_n 2, 1) := by decide +kernel
theorem dX7_plug_98 : decode cX7_plug 98 = .ok (.baload, 1) := by decide +kernel
theorem dX7_plug_99 : decode cX7_plug 99 = .ok (.ireturn, 1) := by decide +kernel
def pX7_plug_b92  (x2 : Int32) (y0 : Int32) (y1 : Int32) (v : St) : Option (Int32 × St) := if (y1 < 0 ∨ 72 ≤ y1.toNatClampNeg) then none else (if (x2 < 0 ∨ 72 ≤ x2.toNatClampNeg) then none else (if ((sA v 1 (upd (v.1 1) y1.toNatClampNeg (vp_nar .boolean y0))).1 1 x2.toNatClampNeg) = 0 ∨ ((sA v 1 (upd (v.1 1) y1.toNatClampNeg (vp_nar .boolean y0))).1 1 x2.toNatClampNeg) = 1 then some ((sA v 1 (upd (v.1 1) y1.toNatClampNeg (vp_nar .boolean y0))).1 1 x2.toNatClampNeg, sA v 1 (upd (v.1 1) y1.toNatClampNeg (vp_nar .boolean y0))) else none))
def pX7_plug_b61  (x2 : Int32) (y0 : Int32) (v : St) : Option (Int32 × St) := if ((sS v 0 y0).2 0) ≤ 0 then (if (x2 < 0 ∨ 72 ≤ x2.toNatClampNeg) then none else (if ((sS v 0 y0).1 1 x2.toNatClampNeg) = 0 then (pX7_plug_b92 x2 1 x2 (sS v 0 y0)) else (pX7_plug_b92 x2 0 x2 (sS v 0 y0)))) else (some (0, sS v 0 y0))
def pX7_plug_b60  (x2 : Int32) (v : St) : Option (Int32 × St) := pX7_plug_b61 x2 0 v
def pX7_plug_b13  (x1 : Int32) (y0 : Int32) (v : St) : Option (Int32 × St) := if ((sS v 0 y0).2 0) ≤ 0 then (if (pX7_indexOf x1 < 0 ∨ 72 ≤ (pX7_indexOf x1).toNatClampNeg) then none else (if ((sS v 0 y0).1 0 (pX7_indexOf x1).toNatClampNeg) = ((-1)) then (pX7_plug_b60 (pX7_indexOf x1) (sS v 0 y0)) else (if (pX7_indexOf x1 < 0 ∨ 72 ≤ (pX7_indexOf x1).toNatClampNeg) then none else (if ((sS v 0 y0).1 0 (pX7_indexOf x1).toNatClampNeg < 0 ∨ 60 ≤ ((sS v 0 y0).1 0 (pX7_indexOf x1).toNatClampNeg).toNatClampNeg) then none else (if ((sS v 0 y0).1 8 ((sS v 0 y0).1 0 (pX7_indexOf x1).toNatClampNeg).toNatClampNeg) = 1 then (pX7_plug_b61 (pX7_indexOf x1) 2 (sS v 0 y0)) else (pX7_plug_b60 (pX7_indexOf x1) (sS v 0 y0))))))) else (some (0, sS v 0 y0))
def pX7_plug (a1 : Int32) (u : St) : Option (Int32 × St) := if (pX7_isSlot a1) = 0 then (pX7_plug_b13 a1 1 u) else (pX7_plug_b13 a1 0 u)
set_option maxHeartbeats 4000000 in
set_option maxRecDepth 20000 in
theorem kX7_plug {l : Launch} {D : va_G} {Y : Nat → ClassId} {q : Nat → Nat} {a1 : Int32} {u u1 : St} {r : Int32} (hX : pX7_plug a1 u = some (r, u1)) : CMi l yX7_plug cX7_plug 3 (some .boolean) 2 42 D Y (wM Y q u) (wM Y q u1) [.ref (q 0), .int a1] r := by
  refine cm_ofi (by decide) (Nat.le_of_ble_eq_true rfl) rfl (fun p e s m args below meth c A F hr hlk => ?_)
  show GW p l e { frames := 2, cells := 0, slots := 0, locals := 42 } s m args below meth c D A 3 0 0 (MQ below (QI D (wM Y q u1) r A) args s 0 0 A) (wM Y q u) 0 [(0, .ref (q 0)), (1, .int a1)] []
  have b92 : ∀  (x2 : Int32) (y0 : Int32) (y1 : Int32) (v : St), pX7_plug_b92  x2 y0 y1 v = some (r, u1) → GW p l e { frames := 2, cells := 0, slots := 0, locals := 42 } s m args below meth c D A 3 0 0 (MQ below (QI D (wM Y q u1) r A) args s 0 0 A) (wM Y q v) 92 [(0, .ref (q 0)), (2, .int x2)] [.int y0, .int y1, .ref (q 2)] := by
    intro  x2 y0 y1 v hX
    have hX : (if (y1 < 0 ∨ 72 ≤ y1.toNatClampNeg) then none else (if (x2 < 0 ∨ 72 ≤ x2.toNatClampNeg) then none else (if ((sA v 1 (upd (v.1 1) y1.toNatClampNeg (vp_nar .boolean y0))).1 1 x2.toNatClampNeg) = 0 ∨ ((sA v 1 (upd (v.1 1) y1.toNatClampNeg (vp_nar .boolean y0))).1 1 x2.toNatClampNeg) = 1 then some ((sA v 1 (upd (v.1 1) y1.toNatClampNeg (vp_nar .boolean y0))).1 1 x2.toNatClampNeg, sA v 1 (upd (v.1 1) y1.toNatClampNeg (vp_nar .boolean y0))) else none))) = some (r, u1) := hX
    obtain ⟨hI8, hX⟩ := inb hX
    refine AS_1 F hI8 dX7_plug_92 ?_
    refine g_aload_n F dX7_plug_93 0 rfl rfl ?_
    refine G_X7_13 F dX7_plug_94 ?_
    refine g_iload_n F dX7_plug_97 1 rfl rfl ?_
    obtain ⟨hI9, hX⟩ := inb hX
    refine AL_1 F hI9 dX7_plug_98 ?_
    exact g_retCb (wf := wM Y q) F hr hlk dX7_plug_99 hX
  have b61 : ∀  (x2 : Int32) (y0 : Int32) (v : St), pX7_plug_b61  x2 y0 v = some (r, u1) → GW p l e { frames := 2, cells := 0, slots := 0, locals := 42 } s m args below meth c D A 3 0 0 (MQ below (QI D (wM Y q u1) r A) args s 0 0 A) (wM Y q v) 61 [(0, .ref (q 0)), (2, .int x2)] [.int y0, .ref (q 0)] := by
    intro  x2 y0 v hX
    have hX : (if ((sS v 0 y0).2 0) ≤ 0 then (if (x2 < 0 ∨ 72 ≤ x2.toNatClampNeg) then none else (if ((sS v 0 y0).1 1 x2.toNatClampNeg) = 0 then (pX7_plug_b92 x2 1 x2 (sS v 0 y0)) else (pX7_plug_b92 x2 0 x2 (sS v 0 y0)))) else (some (0, sS v 0 y0))) = some (r, u1) := hX
    refine P_X7_87 F dX7_plug_61 ?_
    refine g_aload_n F dX7_plug_64 0 rfl rfl ?_
    refine G_X7_87 F dX7_plug_65 ?_
    refine g_if_le (tgt := 73) F dX7_plug_68 (by decide) (fun c5 => ?_) (fun c5 => ?_)
    · have hX := if_t hX c5
      refine g_aload_n F dX7_plug_73 0 rfl rfl ?_
      refine G_X7_13 F dX7_plug_74 ?_
      refine g_iload_n F dX7_plug_77 1 rfl rfl ?_
      refine g_aload_n F dX7_plug_78 0 rfl rfl ?_
      refine G_X7_13 F dX7_plug_79 ?_
      refine g_iload_n F dX7_plug_82 1 rfl rfl ?_
      obtain ⟨hI6, hX⟩ := inb hX
      refine AL_1 F hI6 dX7_plug_83 ?_
      refine g_if_ne (tgt := 91) F dX7_plug_84 (by decide) (fun c7 => ?_) (fun c7 => ?_)
      · have hX := if_f hX c7
        refine g_iconst (v := 0) F dX7_plug_91 (by decide) ?_
        exact b92 x2 0 x2 (sS v 0 y0) hX
      · have hX := if_t hX c7
        refine g_iconst (v := 1) F dX7_plug_87 (by decide) ?_
        refine g_goto (tgt := 92) F dX7_plug_88 (by decide) ?_
        exact b92 x2 1 x2 (sS v 0 y0) hX
    · have hX := if_f hX c5
      refine g_iconst (v := 0) F dX7_plug_71 (by decide) ?_
      exact g_retC (wf := wM Y q) F hr rfl hlk dX7_plug_72 hX
  have b60 : ∀  (x2 : Int32) (v : St), pX7_plug_b60  x2 v = some (r, u1) → GW p l e { frames := 2, cells := 0, slots := 0, locals := 42 } s m args below meth c D A 3 0 0 (MQ below (QI D (wM Y q u1) r A) args s 0 0 A) (wM Y q v) 60 [(0, .ref (q 0)), (2, .int x2)] [.ref (q 0)] := by
    intro  x2 v hX
    have hX : (pX7_plug_b61 x2 0 v) = some (r, u1) := hX
    refine g_iconst (v := 0) F dX7_plug_60 (by decide) ?_
    exact b61 x2 0 v hX
  have b13 : ∀  (x1 : Int32) (y0 : Int32) (v : St), pX7_plug_b13  x1 y0 v = some (r, u1) → GW p l e { frames := 2, cells := 0, slots := 0, locals := 42 } s m args below meth c D A 3 0 0 (MQ below (QI D (wM Y q u1) r A) args s 0 0 A) (wM Y q v) 13 [(0, .ref (q 0)), (1, .int x1)] [.int y0, .ref (q 0)] := by
    intro  x1 y0 v hX
    have hX : (if ((sS v 0 y0).2 0) ≤ 0 then (if (pX7_indexOf x1 < 0 ∨ 72 ≤ (pX7_indexOf x1).toNatClampNeg) then none else (if ((sS v 0 y0).1 0 (pX7_indexOf x1).toNatClampNeg) = ((-1)) then (pX7_plug_b60 (pX7_indexOf x1) (sS v 0 y0)) else (if (pX7_indexOf x1 < 0 ∨ 72 ≤ (pX7_indexOf x1).toNatClampNeg) then none else (if ((sS v 0 y0).1 0 (pX7_indexOf x1).toNatClampNeg < 0 ∨ 60 ≤ ((sS v 0 y0).1 0 (pX7_indexOf x1).toNatClampNeg).toNatClampNeg) then none else (if ((sS v 0 y0).1 8 ((sS v 0 y0).1 0 (pX7_indexOf x1).toNatClampNeg).toNatClampNeg) = 1 then (pX7_plug_b61 (pX7_indexOf x1) 2 (sS v 0 y0)) else (pX7_plug_b60 (pX7_indexOf x1) (sS v 0 y0))))))) else (some (0, sS v 0 y0))) = some (r, u1) := hX
    refine P_X7_87 F dX7_plug_13 ?_
    refine g_aload_n F dX7_plug_16 0 rfl rfl ?_
    refine G_X7_87 F dX7_plug_17 ?_
    refine g_if_le (tgt := 25) F dX7_plug_20 (by decide) (fun c2 => ?_) (fun c2 => ?_)
    · have hX := if_t hX c2
      refine g_iload_n F dX7_plug_25 1 rfl rfl ?_
      refine callX7_indexOf F ml_X7_107 ⟨Nat.le_of_ble_eq_true rfl, Nat.le_of_ble_eq_true rfl⟩ (Nat.le_of_ble_eq_true rfl) dX7_plug_26 ?_
      refine g_istore_n (lv' := [(2, .int (pX7_indexOf x1)), (0, .ref (q 0)), (1, .int x1)]) F dX7_plug_29 rfl (by decide) rfl ?_
      refine g_aload_n F dX7_plug_30 1 rfl rfl ?_
      refine g_aload_n F dX7_plug_31 1 rfl rfl ?_
      refine G_X7_7 F dX7_plug_32 ?_
      refine g_iload_n F dX7_plug_35 0 rfl rfl ?_
      obtain ⟨hI3, hX⟩ := inb hX
      refine AL_0 F hI3 dX7_plug_36 ?_
      refine g_iconst (v := (-1)) F dX7_plug_37 (by decide) ?_
      refine g_icmp_eq (tgt := 60) F dX7_plug_38 (by decide) (fun c4 => ?_) (fun c4 => ?_)
      · have hX := if_t hX c4
        refine g_sub [1, 0] rfl ?_
        exact b60 (pX7_indexOf x1) (sS v 0 y0) hX
      · have hX := if_f hX c4
        refine g_aload_n F dX7_plug_41 1 rfl rfl ?_
        refine G_X7_45 F dX7_plug_42 ?_
        refine g_aload_n F dX7_plug_45 1 rfl rfl ?_
        refine G_X7_7 F dX7_plug_46 ?_
        refine g_iload_n F dX7_plug_49 0 rfl rfl ?_
        obtain ⟨hI10, hX⟩ := inb hX
        refine AL_0 F hI10 dX7_plug_50 ?_
        obtain ⟨hI11, hX⟩ := inb hX
        refine AL_8 F hI11 dX7_plug_51 ?_
        refine g_iconst (v := 1) F dX7_plug_52 (by decide) ?_
        refine g_icmp_ne (tgt := 60) F dX7_plug_53 (by decide) (fun c12 => ?_) (fun c12 => ?_)
        · have hX := if_f hX c12
          refine g_sub [1, 0] rfl ?_
          exact b60 (pX7_indexOf x1) (sS v 0 y0) hX
        · have hX := if_t hX c12
          refine g_iconst (v := 2) F dX7_plug_56 (by decide) ?_
          refine g_goto (tgt := 61) F dX7_plug_57 (by decide) ?_
          refine g_sub [1, 0] rfl ?_
          exact b61 (pX7_indexOf x1) 2 (sS v 0 y0) hX
    · have hX := if_f hX c2
      refine g_iconst (v := 0) F dX7_plug_23 (by decide) ?_
      exact g_retC (wf := wM Y q) F hr rfl hlk dX7_plug_24 hX
  have hX : (if (pX7_isSlot a1) = 0 then (pX7_plug_b13 a1 1 u) else (pX7_plug_b13 a1 0 u)) = some (r, u1) := hX
  refine g_aload_n F dX7_plug_0 0 rfl rfl ?_
  refine g_iload_n F dX7_plug_1 1 rfl rfl ?_
  refine callX7_isSlot F ml_X7_103 ⟨Nat.le_of_ble_eq_true rfl, Nat.le_of_ble_eq_true rfl⟩ (Nat.le_of_ble_eq_true rfl) dX7_plug_2 ?_
  refine g_if_eq (tgt := 12) F dX7_plug_5 (by decide) (fun c1 => ?_) (fun c1 => ?_)
  · have hX := if_t hX c1
    refine g_iconst (v := 1) F dX7_plug_12 (by decide) ?_
    exact b13 a1 1 u hX
  · have hX := if_f hX c1
    refine g_iconst (v := 0) F dX7_plug_8 (by decide) ?_
    refine g_goto (tgt := 13) F dX7_plug_9 (by decide) ?_
    exact b13 a1 0 u hX
theorem callX7_plug {p : Program} {l : Launch} {e : Env} {R : Room} {s : State} {m : MethodId} {args : Array Value} {below : List Frame} {meth : Method} {c : Code} {D : va_G} {Y : Nat → ClassId} {A : Nat → Prop} {cc : ByteArray} {nL : Nat} {own : String} {Q : State → Prop} {pc : Nat} {lv : List (Nat × Value)} {rest : List Value} {q : Nat → Nat} {a1 : Int32} {u u1 : St} {r : Int32} (F : Fx p s m args c D Y A cc nL own) (hX : pX7_plug a1 u = some (r, u1)) {index : Nat} (hml : Cond.methodLink own index yX7_plug ∈ TBL) (hR : 2 + 1 ≤ R.frames ∧ 8 + (3 + 11) + 42 ≤ R.locals) (hcat : (rest.map fun v => v.category).sum ≤ 8) (hd : decode cc pc = .ok (.invokevirtual index, 3)) (kk : GW p l e R s m args below meth c D A nL 0 0 Q (wM Y q u1) (pc + 3) lv (.int r :: rest)) : GW p l e R s m args below meth c D A nL 0 0 Q (wM Y q u) pc lv (.int a1 :: .ref (q 0) :: rest) := g_callVi (ws := wM Y q u) (n := 1) (q0 := 0) (As := [.int a1]) F [] [] (kX7_plug hX) (List.append_nil _).symm (List.append_nil _) (by unfold mOK; decide +kernel) rfl rfl cd_yX7_plug hml im_yX7_plug se_yX7_plug in_X7 rfl rfl hR ⟨Nat.zero_le _, Nat.zero_le _⟩ rfl hcat hd kk
theorem dX7_bounds_0 : decode cX7_bounds 0 = .ok (.aload_n 0, 1) := by decide +kernel
theorem dX7_bounds_1 : decode cX7_bounds 1 = .ok (.iload_n 1, 1) := by decide +kernel
theorem dX7_bounds_2 : decode cX7_bounds 2 = .ok (.iconst 0, 1) := by decide +kernel
theorem dX7_bounds_3 : decode cX7_bounds 3 = .ok (.sipush 2000, 3) := by decide +kernel
theorem dX7_bounds_6 : decode cX7_bounds 6 = .ok (.invokestatic 90, 3) := by decide +kernel
theorem dX7_bounds_9 : decode cX7_bounds 9 = .ok (.ifCond .eq 29, 3) := by decide +kernel
theorem dX7_bounds_12 : decode cX7_bounds 12 = .ok (.iload_n 2, 1) := by decide +kernel
theorem dX7_bounds_13 : decode cX7_bounds 13 = .ok (.iconst 0, 1) := by decide +kernel
theorem dX7_bounds_14 : decode cX7_bounds 14 = .ok (.sipush 2000, 3) := by decide +kernel
theorem dX7_bounds_17 : decode cX7_bounds 17 = .ok (.invokestatic 90, 3) := by decide +kernel
theorem dX7_bounds_20 : decode cX7_bounds 20 = .ok (.ifCond .eq 18, 3) := by decide +kernel
theorem dX7_bounds_23 : decode cX7_bounds 23 = .ok (.iload_n 3, 1) := by decide +kernel
theorem dX7_bounds_24 : decode cX7_bounds 24 = .ok (.iconst 0, 1) := by decide +kernel
theorem dX7_bounds_25 : decode cX7_bounds 25 = .ok (.sipush 9999, 3) := by decide +kernel
theorem dX7_bounds_28 : decode cX7_bounds 28 = .ok (.invokestatic 90, 3) := by decide +kernel
theorem dX7_bounds_31 : decode cX7_bounds 31 = .ok (.ifCond .eq 7, 3) := by decide +kernel
theorem dX7_bounds_34 : decode cX7_bounds 34 = .ok (.iconst 0, 1) := by decide +kernel
theorem dX7_bounds_35 : decode cX7_bounds 35 = .ok (.goto 4, 3) := by decide +kernel
theorem dX7_bounds_38 : decode cX7_bounds 38 = .ok (.iconst 1, 1) := by decide +kernel
theorem dX7_bounds_39 : decode cX7_bounds 39 = .ok (.putfield 87, 3) := by decide +kernel
theorem dX7_bounds_42 : decode cX7_bounds 42 = .ok (.aload_n 0, 1) := by decide +kernel
theorem dX7_bounds_43 : decode cX7_bounds 43 = .ok (.getfield 87, 3) := by decide +kernel
theorem dX7_bounds_46 : decode cX7_bounds 46 = .ok (.ifCond .ne 18, 3) := by decide +kernel
theorem dX7_bounds_49 : decode cX7_bounds 49 = .ok (.aload_n 0, 1) := by decide +kernel
theorem dX7_bounds_50 : decode cX7_bounds 50 = .ok (.iload_n 1, 1) := by decide +kernel
theorem dX7_bounds_51 : decode cX7_bounds 51 = .ok (.putfield 26, 3) := by decide +kernel
theorem dX7_bounds_54 : decode cX7_bounds 54 = .ok (.aload_n 0, 1) := by decide +kernel
theorem dX7_bounds_55 : decode cX7_bounds 55 = .ok (.iload_n 2, 1) := by decide +kernel
theorem dX7_bounds_56 : decode cX7_bounds 56 = .ok (.putfield 30, 3) := by decide +kernel
theorem dX7_bounds_59 : decode cX7_bounds 59 = .ok (.aload_n 0, 1) := by decide +kernel
theorem dX7_bounds_60 : decode cX7_bounds 60 = .ok (.iload_n 3, 1) := by decide +kernel
theorem dX7_bounds_61 : decode cX7_bounds 61 = .ok (.putfield 33, 3) := by decide +kernel
theorem dX7_bounds_64 : decode cX7_bounds 64 = .ok (.return_, 1) := by decide +kernel
def pX7_bounds_b39  (x1 : Int32) (x2 : Int32) (x3 : Int32) (y0 : Int32) (v : St) : Option (Int32 × St) := if ((sS v 0 y0).2 0) = 0 then (some (0, sS (sS (sS (sS v 0 y0) 1 x1) 2 x2) 3 x3)) else (some (0, sS v 0 y0))
def pX7_bounds_b38  (x1 : Int32) (x2 : Int32) (x3 : Int32) (v : St) : Option (Int32 × St) := pX7_bounds_b39 x1 x2 x3 1 v
def pX7_bounds (a1 : Int32) (a2 : Int32) (a3 : Int32) (u : St) : Option (Int32 × St) := if (pX7_in a1 0 2000) = 0 then (pX7_bounds_b38 a1 a2 a3 u) else (if (pX7_in a2 0 2000) = 0 then (pX7_bounds_b38 a1 a2 a3 u) else (if (pX7_in a3 0 9999) = 0 then (pX7_bounds_b38 a1 a2 a3 u) else (pX7_bounds_b39 a1 a2 a3 0 u)))
set_option maxHeartbeats 4000000 in
set_option maxRecDepth 20000 in
theorem kX7_bounds {l : Launch} {D : va_G} {Y : Nat → ClassId} {q : Nat → Nat} {a1 a2 a3 : Int32} {u u1 : St} {r : Int32} (hX : pX7_bounds a1 a2 a3 u = some (r, u1)) : CMv l yX7_bounds cX7_bounds 4 1 22 D Y (wM Y q u) (wM Y q u1) [.ref (q 0), .int a1, .int a2, .int a3] := by
  refine cm_ofv (by decide) (Nat.le_of_ble_eq_true rfl) rfl (fun p e s m args below meth c A F hr hlk => ?_)
  show GW p l e { frames := 1, cells := 0, slots := 0, locals := 22 } s m args below meth c D A 4 0 0 (MQ below (QV D (wM Y q u1) A) args s 0 0 A) (wM Y q u) 0 [(0, .ref (q 0)), (1, .int a1), (2, .int a2), (3, .int a3)] []
  have b39 : ∀  (x1 : Int32) (x2 : Int32) (x3 : Int32) (y0 : Int32) (v : St), pX7_bounds_b39  x1 x2 x3 y0 v = some (r, u1) → GW p l e { frames := 1, cells := 0, slots := 0, locals := 22 } s m args below meth c D A 4 0 0 (MQ below (QV D (wM Y q u1) A) args s 0 0 A) (wM Y q v) 39 [(0, .ref (q 0)), (1, .int x1), (2, .int x2), (3, .int x3)] [.int y0, .ref (q 0)] := by
    intro  x1 x2 x3 y0 v hX
    have hX : (if ((sS v 0 y0).2 0) = 0 then (some (0, sS (sS (sS (sS v 0 y0) 1 x1) 2 x2) 3 x3)) else (some (0, sS v 0 y0))) = some (r, u1) := hX
    refine P_X7_87 F dX7_bounds_39 ?_
    refine g_aload_n F dX7_bounds_42 0 rfl rfl ?_
    refine G_X7_87 F dX7_bounds_43 ?_
    refine g_if_ne (tgt := 64) F dX7_bounds_46 (by decide) (fun c2 => ?_) (fun c2 => ?_)
    · have hX := if_f hX c2
      exact g_retV (wf := wM Y q) F hr hlk dX7_bounds_64 hX
    · have hX := if_t hX c2
      refine g_aload_n F dX7_bounds_49 0 rfl rfl ?_
      refine g_iload_n F dX7_bounds_50 1 rfl rfl ?_
      refine P_X7_26 F dX7_bounds_51 ?_
      refine g_aload_n F dX7_bounds_54 0 rfl rfl ?_
      refine g_iload_n F dX7_bounds_55 2 rfl rfl ?_
      refine P_X7_30 F dX7_bounds_56 ?_
      refine g_aload_n F dX7_bounds_59 0 rfl rfl ?_
      refine g_iload_n F dX7_bounds_60 3 rfl rfl ?_
      refine P_X7_33 F dX7_bounds_61 ?_
      exact g_retV (wf := wM Y q) F hr hlk dX7_bounds_64 hX
  have b38 : ∀  (x1 : Int32) (x2 : Int32) (x3 : Int32) (v : St), pX7_bounds_b38  x1 x2 x3 v = some (r, u1) → GW p l e { frames := 1, cells := 0, slots := 0, locals := 22 } s m args below meth c D A 4 0 0 (MQ below (QV D (wM Y q u1) A) args s 0 0 A) (wM Y q v) 38 [(0, .ref (q 0)), (1, .int x1), (2, .int x2), (3, .int x3)] [.ref (q 0)] := by
    intro  x1 x2 x3 v hX
    have hX : (pX7_bounds_b39 x1 x2 x3 1 v) = some (r, u1) := hX
    refine g_iconst (v := 1) F dX7_bounds_38 (by decide) ?_
    exact b39 x1 x2 x3 1 v hX
  have hX : (if (pX7_in a1 0 2000) = 0 then (pX7_bounds_b38 a1 a2 a3 u) else (if (pX7_in a2 0 2000) = 0 then (pX7_bounds_b38 a1 a2 a3 u) else (if (pX7_in a3 0 9999) = 0 then (pX7_bounds_b38 a1 a2 a3 u) else (pX7_bounds_b39 a1 a2 a3 0 u)))) = some (r, u1) := hX
  refine g_aload_n F dX7_bounds_0 0 rfl rfl ?_
  refine g_iload_n F dX7_bounds_1 1 rfl rfl ?_
  refine g_iconst (v := 0) F dX7_bounds_2 (by decide) ?_
  refine g_sipush (v := 2000) F dX7_bounds_3 (by decide) ?_
  refine callX7_in F ml_X7_90 ⟨Nat.le_of_ble_eq_true rfl, Nat.le_of_ble_eq_true rfl⟩ (Nat.le_of_ble_eq_true rfl) dX7_bounds_6 ?_
  refine g_if_eq (tgt := 38) F dX7_bounds_9 (by decide) (fun c1 => ?_) (fun c1 => ?_)
  · have hX := if_t hX c1
    exact b38 a1 a2 a3 u hX
  · have hX := if_f hX c1
    refine g_iload_n F dX7_bounds_12 2 rfl rfl ?_
    refine g_iconst (v := 0) F dX7_bounds_13 (by decide) ?_
    refine g_sipush (v := 2000) F dX7_bounds_14 (by decide) ?_
    refine callX7_in F ml_X7_90 ⟨Nat.le_of_ble_eq_true rfl, Nat.le_of_ble_eq_true rfl⟩ (Nat.le_of_ble_eq_true rfl) dX7_bounds_17 ?_
    refine g_if_eq (tgt := 38) F dX7_bounds_20 (by decide) (fun c3 => ?_) (fun c3 => ?_)
    · have hX := if_t hX c3
      exact b38 a1 a2 a3 u hX
    · have hX := if_f hX c3
      refine g_iload_n F dX7_bounds_23 3 rfl rfl ?_
      refine g_iconst (v := 0) F dX7_bounds_24 (by decide) ?_
      refine g_sipush (v := 9999) F dX7_bounds_25 (by decide) ?_
      refine callX7_in F ml_X7_90 ⟨Nat.le_of_ble_eq_true rfl, Nat.le_of_ble_eq_true rfl⟩ (Nat.le_of_ble_eq_true rfl) dX7_bounds_28 ?_
      refine g_if_eq (tgt := 38) F dX7_bounds_31 (by decide) (fun c4 => ?_) (fun c4 => ?_)
      · have hX := if_t hX c4
        exact b38 a1 a2 a3 u hX
      · have hX := if_f hX c4
        refine g_iconst (v := 0) F dX7_bounds_34 (by decide) ?_
        refine g_goto (tgt := 39) F dX7_bounds_35 (by decide) ?_
        exact b39 a1 a2 a3 0 u hX
theorem callX7_bounds {p : Program} {l : Launch} {e : Env} {R : Room} {s : State} {m : MethodId} {args : Array Value} {below : List Frame} {meth : Method} {c : Code} {D : va_G} {Y : Nat → ClassId} {A : Nat → Prop} {cc : ByteArray} {nL : Nat} {own : String} {Q : State → Prop} {pc : Nat} {lv : List (Nat × Value)} {rest : List Value} {q : Nat → Nat} {a1 a2 a3 : Int32} {u u1 : St} {r : Int32} (F : Fx p s m args c D Y A cc nL own) (hX : pX7_bounds a1 a2 a3 u = some (r, u1)) {index : Nat} (hml : Cond.methodLink own index yX7_bounds ∈ TBL) (hR : 1 + 1 ≤ R.frames ∧ 8 + (4 + 11) + 22 ≤ R.locals) (hcat : (rest.map fun v => v.category).sum ≤ 8) (hd : decode cc pc = .ok (.invokevirtual index, 3)) (kk : GW p l e R s m args below meth c D A nL 0 0 Q (wM Y q u1) (pc + 3) lv (rest)) : GW p l e R s m args below meth c D A nL 0 0 Q (wM Y q u) pc lv (.int a3 :: .int a2 :: .int a1 :: .ref (q 0) :: rest) := g_callVv (ws := wM Y q u) (n := 3) (q0 := 0) (As := [.int a1, .int a2, .int a3]) F [] [] (kX7_bounds hX) (List.append_nil _).symm (List.append_nil _) (by unfold mOK; decide +kernel) rfl rfl cd_yX7_bounds hml im_yX7_bounds se_yX7_bounds in_X7 rfl rfl hR ⟨Nat.zero_le _, Nat.zero_le _⟩ rfl hcat hd kk
theorem dX7_tank_0 : decode cX7_tank 0 = .ok (.aload_n 0, 1) := by decide +kernel
theorem dX7_tank_1 : decode cX7_tank 1 = .ok (.iload_n 1, 1) := by decide +kernel
theorem dX7_tank_2 : decode cX7_tank 2 = .ok (.invokestatic 111, 3) := by decide +kernel
theorem dX7_tank_5 : decode cX7_tank 5 = .ok (.ifCond .ne 7, 3) := by decide +kernel
theorem dX7_tank_8 : decode cX7_tank 8 = .ok (.iconst 1, 1) := by decide +kernel
theorem dX7_tank_9 : decode cX7_tank 9 = .ok (.goto 18, 3) := by decide +kernel
theorem dX7_tank_12 : decode cX7_tank 12 = .ok (.iload_n 2, 1) := by decide +kernel
theorem dX7_tank_13 : decode cX7_tank 13 = .ok (.iconst 0, 1) := by decide +kernel
theorem dX7_tank_14 : decode cX7_tank 14 = .ok (.bipush 99, 2) := by decide +kernel
theorem dX7_tank_16 : decode cX7_tank 16 = .ok (.invokestatic 90, 3) := by decide +kernel
theorem dX7_tank_19 : decode cX7_tank 19 = .ok (.ifCond .eq 7, 3) := by decide +kernel
theorem dX7_tank_22 : decode cX7_tank 22 = .ok (.iconst 0, 1) := by decide +kernel
theorem dX7_tank_23 : decode cX7_tank 23 = .ok (.goto 4, 3) := by decide +kernel
theorem dX7_tank_26 : decode cX7_tank 26 = .ok (.iconst 2, 1) := by decide +kernel
theorem dX7_tank_27 : decode cX7_tank 27 = .ok (.putfield 87, 3) := by decide +kernel
theorem dX7_tank_30 : decode cX7_tank 30 = .ok (.aload_n 0, 1) := by decide +kernel
theorem dX7_tank_31 : decode cX7_tank 31 = .ok (.getfield 87, 3) := by decide +kernel
theorem dX7_tank_34 : decode cX7_tank 34 = .ok (.ifCond .le 5, 3) := by decide +kernel
theorem dX7_tank_37 : decode cX7_tank 37 = .ok (.iconst 0, 1) := by decide +kernel
theorem dX7_tank_38 : decode cX7_tank 38 = .ok (.ireturn, 1) := by decide +kernel
theorem dX7_tank_39 : decode cX7_tank 39 = .ok (.aload_n 0, 1) := by decide +kernel
theorem dX7_tank_40 : decode cX7_tank 40 = .ok (.getfield 23, 3) := by decide +kernel
theorem dX7_tank_43 : decode cX7_tank 43 = .ok (.iload_n 1, 1) := by decide +kernel
theorem dX7_tank_44 : decode cX7_tank 44 = .ok (.iaload, 1) := by decide +kernel
theorem dX7_tank_45 : decode cX7_tank 45 = .ok (.istore_n 3, 1) := by decide +kernel
theorem dX7_tank_46 : decode cX7_tank 46 = .ok (.aload_n 0, 1) := by decide +kernel
theorem dX7_tank_47 : decode cX7_tank 47 = .ok (.getfield 23, 3) := by decide +kernel
theorem dX7_tank_50 : decode cX7_tank 50 = .ok (.iload_n 1, 1) := by decide +kernel
theorem dX7_tank_51 : decode cX7_tank 51 = .ok (.iload_n 2, 1) := by decide +kernel
theorem dX7_tank_52 : decode cX7_tank 52 = .ok (.iastore, 1) := by decide +kernel
theorem dX7_tank_53 : decode cX7_tank 53 = .ok (.iload_n 3, 1) := by decide +kernel
theorem dX7_tank_54 : decode cX7_tank 54 = .ok (.ireturn, 1) := by decide +kernel
def pX7_tank_b27  (x1 : Int32) (x2 : Int32) (y0 : Int32) (v : St) : Option (Int32 × St) := if ((sS v 0 y0).2 0) ≤ 0 then (if (x1 < 0 ∨ 6 ≤ x1.toNatClampNeg) then none else (if (x1 < 0 ∨ 6 ≤ x1.toNatClampNeg) then none else (some ((sS v 0 y0).1 4 x1.toNatClampNeg, sA (sS v 0 y0) 4 (upd ((sS v 0 y0).1 4) x1.toNatClampNeg x2))))) else (some (0, sS v 0 y0))
def pX7_tank (a1 : Int32) (a2 : Int32) (u : St) : Option (Int32 × St) := if (pX7_isBay a1) = 0 then (pX7_tank_b27 a1 a2 1 u) else (if (pX7_in a2 0 99) = 0 then (pX7_tank_b27 a1 a2 2 u) else (pX7_tank_b27 a1 a2 0 u))
set_option maxHeartbeats 4000000 in
set_option maxRecDepth 20000 in
theorem kX7_tank {l : Launch} {D : va_G} {Y : Nat → ClassId} {q : Nat → Nat} {a1 a2 : Int32} {u u1 : St} {r : Int32} (hX : pX7_tank a1 a2 u = some (r, u1)) : CMi l yX7_tank cX7_tank 4 (some .int) 2 42 D Y (wM Y q u) (wM Y q u1) [.ref (q 0), .int a1, .int a2] r := by
  refine cm_ofi (by decide) (Nat.le_of_ble_eq_true rfl) rfl (fun p e s m args below meth c A F hr hlk => ?_)
  show GW p l e { frames := 2, cells := 0, slots := 0, locals := 42 } s m args below meth c D A 4 0 0 (MQ below (QI D (wM Y q u1) r A) args s 0 0 A) (wM Y q u) 0 [(0, .ref (q 0)), (1, .int a1), (2, .int a2)] []
  have b27 : ∀  (x1 : Int32) (x2 : Int32) (y0 : Int32) (v : St), pX7_tank_b27  x1 x2 y0 v = some (r, u1) → GW p l e { frames := 2, cells := 0, slots := 0, locals := 42 } s m args below meth c D A 4 0 0 (MQ below (QI D (wM Y q u1) r A) args s 0 0 A) (wM Y q v) 27 [(0, .ref (q 0)), (1, .int x1), (2, .int x2)] [.int y0, .ref (q 0)] := by
    intro  x1 x2 y0 v hX
    have hX : (if ((sS v 0 y0).2 0) ≤ 0 then (if (x1 < 0 ∨ 6 ≤ x1.toNatClampNeg) then none else (if (x1 < 0 ∨ 6 ≤ x1.toNatClampNeg) then none else (some ((sS v 0 y0).1 4 x1.toNatClampNeg, sA (sS v 0 y0) 4 (upd ((sS v 0 y0).1 4) x1.toNatClampNeg x2))))) else (some (0, sS v 0 y0))) = some (r, u1) := hX
    refine P_X7_87 F dX7_tank_27 ?_
    refine g_aload_n F dX7_tank_30 0 rfl rfl ?_
    refine G_X7_87 F dX7_tank_31 ?_
    refine g_if_le (tgt := 39) F dX7_tank_34 (by decide) (fun c3 => ?_) (fun c3 => ?_)
    · have hX := if_t hX c3
      refine g_aload_n F dX7_tank_39 0 rfl rfl ?_
      refine G_X7_23 F dX7_tank_40 ?_
      refine g_iload_n F dX7_tank_43 1 rfl rfl ?_
      obtain ⟨hI4, hX⟩ := inb hX
      refine AL_4 F hI4 dX7_tank_44 ?_
      refine g_istore_n (lv' := [(3, .int ((sS v 0 y0).1 4 x1.toNatClampNeg)), (0, .ref (q 0)), (1, .int x1), (2, .int x2)]) F dX7_tank_45 rfl (by decide) rfl ?_
      refine g_aload_n F dX7_tank_46 1 rfl rfl ?_
      refine G_X7_23 F dX7_tank_47 ?_
      refine g_iload_n F dX7_tank_50 2 rfl rfl ?_
      refine g_iload_n F dX7_tank_51 3 rfl rfl ?_
      obtain ⟨hI5, hX⟩ := inb hX
      refine AS_4 F hI5 dX7_tank_52 ?_
      refine g_iload_n F dX7_tank_53 0 rfl rfl ?_
      exact g_retC (wf := wM Y q) F hr rfl hlk dX7_tank_54 hX
    · have hX := if_f hX c3
      refine g_iconst (v := 0) F dX7_tank_37 (by decide) ?_
      exact g_retC (wf := wM Y q) F hr rfl hlk dX7_tank_38 hX
  have hX : (if (pX7_isBay a1) = 0 then (pX7_tank_b27 a1 a2 1 u) else (if (pX7_in a2 0 99) = 0 then (pX7_tank_b27 a1 a2 2 u) else (pX7_tank_b27 a1 a2 0 u))) = some (r, u1) := hX
  refine g_aload_n F dX7_tank_0 0 rfl rfl ?_
  refine g_iload_n F dX7_tank_1 1 rfl rfl ?_
  refine callX7_isBay F ml_X7_111 ⟨Nat.le_of_ble_eq_true rfl, Nat.le_of_ble_eq_true rfl⟩ (Nat.le_of_ble_eq_true rfl) dX7_tank_2 ?_
  refine g_if_ne (tgt := 12) F dX7_tank_5 (by decide) (fun c1 => ?_) (fun c1 => ?_)
  · have hX := if_f hX c1
    refine g_iload_n F dX7_tank_12 2 rfl rfl ?_
    refine g_iconst (v := 0) F dX7_tank_13 (by decide) ?_
    refine g_bipush (v := 99) F dX7_tank_14 (by decide) ?_
    refine callX7_in F ml_X7_90 ⟨Nat.le_of_ble_eq_true rfl, Nat.le_of_ble_eq_true rfl⟩ (Nat.le_of_ble_eq_true rfl) dX7_tank_16 ?_
    refine g_if_eq (tgt := 26) F dX7_tank_19 (by decide) (fun c2 => ?_) (fun c2 => ?_)
    · have hX := if_t hX c2
      refine g_iconst (v := 2) F dX7_tank_26 (by decide) ?_
      exact b27 a1 a2 2 u hX
    · have hX := if_f hX c2
      refine g_iconst (v := 0) F dX7_tank_22 (by decide) ?_
      refine g_goto (tgt := 27) F dX7_tank_23 (by decide) ?_
      exact b27 a1 a2 0 u hX
  · have hX := if_t hX c1
    refine g_iconst (v := 1) F dX7_tank_8 (by decide) ?_
    refine g_goto (tgt := 27) F dX7_tank_9 (by decide) ?_
    exact b27 a1 a2 1 u hX
theorem callX7_tank {p : Program} {l : Launch} {e : Env} {R : Room} {s : State} {m : MethodId} {args : Array Value} {below : List Frame} {meth : Method} {c : Code} {D : va_G} {Y : Nat → ClassId} {A : Nat → Prop} {cc : ByteArray} {nL : Nat} {own : String} {Q : State → Prop} {pc : Nat} {lv : List (Nat × Value)} {rest : List Value} {q : Nat → Nat} {a1 a2 : Int32} {u u1 : St} {r : Int32} (F : Fx p s m args c D Y A cc nL own) (hX : pX7_tank a1 a2 u = some (r, u1)) {index : Nat} (hml : Cond.methodLink own index yX7_tank ∈ TBL) (hR : 2 + 1 ≤ R.frames ∧ 8 + (4 + 11) + 42 ≤ R.locals) (hcat : (rest.map fun v => v.category).sum ≤ 8) (hd : decode cc pc = .ok (.invokevirtual index, 3)) (kk : GW p l e R s m args below meth c D A nL 0 0 Q (wM Y q u1) (pc + 3) lv (.int r :: rest)) : GW p l e R s m args below meth c D A nL 0 0 Q (wM Y q u) pc lv (.int a2 :: .int a1 :: .ref (q 0) :: rest) := g_callVi (ws := wM Y q u) (n := 2) (q0 := 0) (As := [.int a1, .int a2]) F [] [] (kX7_tank hX) (List.append_nil _).symm (List.append_nil _) (by unfold mOK; decide +kernel) rfl rfl cd_yX7_tank hml im_yX7_tank se_yX7_tank in_X7 rfl rfl hR ⟨Nat.zero_le _, Nat.zero_le _⟩ rfl hcat hd kk
theorem dX7_jam_0 : decode cX7_jam 0 = .ok (.aload_n 0, 1) := by decide +kernel
theorem dX7_jam_1 : decode cX7_jam 1 = .ok (.iload_n 1, 1) := by decide +kernel
theorem dX7_jam_2 : decode cX7_jam 2 = .ok (.invokestatic 111, 3) := by decide +kernel
theorem dX7_jam_5 : decode cX7_jam 5 = .ok (.ifCond .ne 7, 3) := by decide +kernel
theorem dX7_jam_8 : decode cX7_jam 8 = .ok (.iconst 1, 1) := by decide +kernel
theorem dX7_jam_9 : decode cX7_jam 9 = .ok (.goto 18, 3) := by decide +kernel
theorem dX7_jam_12 : decode cX7_jam 12 = .ok (.iload_n 2, 1) := by decide +kernel
theorem dX7_jam_13 : decode cX7_jam 13 = .ok (.iconst 1, 1) := by decide +kernel
theorem dX7_jam_14 : decode cX7_jam 14 = .ok (.bipush 50, 2) := by decide +kernel
theorem dX7_jam_16 : decode cX7_jam 16 = .ok (.invokestatic 90, 3) := by decide +kernel
theorem dX7_jam_19 : decode cX7_jam 19 = .ok (.ifCond .eq 7, 3) := by decide +kernel
theorem dX7_jam_22 : decode cX7_jam 22 = .ok (.iconst 0, 1) := by decide +kernel
theorem dX7_jam_23 : decode cX7_jam 23 = .ok (.goto 4, 3) := by decide +kernel
theorem dX7_jam_26 : decode cX7_jam 26 = .ok (.iconst 2, 1) := by decide +kernel
theorem dX7_jam_27 : decode cX7_jam 27 = .ok (.putfield 87, 3) := by decide +kernel
theorem dX7_jam_30 : decode cX7_jam 30 = .ok (.aload_n 0, 1) := by decide +kernel
theorem dX7_jam_31 : decode cX7_jam 31 = .ok (.getfield 87, 3) := by decide +kernel
theorem dX7_jam_34 : decode cX7_jam 34 = .ok (.ifCond .le 5, 3) := by decide +kernel
theorem dX7_jam_37 : decode cX7_jam 37 = .ok (.iconst 0, 1) := by decide +kernel
theorem dX7_jam_38 : decode cX7_jam 38 = .ok (.ireturn, 1) := by decide +kernel
theorem dX7_jam_39 : decode cX7_jam 39 = .ok (.aload_n 0, 1) := by decide +kernel
theorem dX7_jam_40 : decode cX7_jam 40 = .ok (.getfield 20, 3) := by decide +kernel
theorem dX7_jam_43 : decode cX7_jam 43 = .ok (.iload_n 1, 1) := by decide +kernel
theorem dX7_jam_44 : decode cX7_jam 44 = .ok (.aload_n 0, 1) := by decide +kernel
theorem dX7_jam_45 : decode cX7_jam 45 = .ok (.getfield 114, 3) := by decide +kernel
theorem dX7_jam_48 : decode cX7_jam 48 = .ok (.iload_n 2, 1) := by decide +kernel
theorem dX7_jam_49 : decode cX7_jam 49 = .ok (.iadd, 1) := by decide +kernel
theorem dX7_jam_50 : decode cX7_jam 50 = .ok (.aload_n 0, 1) := by decide +kernel
theorem dX7_jam_51 : decode cX7_jam 51 = .ok (.getfield 20, 3) := by decide +kernel
theorem dX7_jam_54 : decode cX7_jam 54 = .ok (.iload_n 1, 1) := by decide +kernel
theorem dX7_jam_55 : decode cX7_jam 55 = .ok (.iaload, 1) := by decide +kernel
theorem dX7_jam_56 : decode cX7_jam 56 = .ok (.if_icmp .le 12, 3) := by decide +kernel
theorem dX7_jam_59 : decode cX7_jam 59 = .ok (.aload_n 0, 1) := by decide +kernel
theorem dX7_jam_60 : decode cX7_jam 60 = .ok (.getfield 114, 3) := by decide +kernel
theorem dX7_jam_63 : decode cX7_jam 63 = .ok (.iload_n 2, 1) := by decide +kernel
theorem dX7_jam_64 : decode cX7_jam 64 = .ok (.iadd, 1) := by decide +kernel
theorem dX7_jam_65 : decode cX7_jam 65 = .ok (.goto 9, 3) := by decide +kernel
theorem dX7_jam_68 : decode cX7_jam 68 = .ok (.aload_n 0, 1) := by decide +kernel
theorem dX7_jam_69 : decode cX7_jam 69 = .ok (.getfield 20, 3) := by decide +kernel
theorem dX7_jam_72 : decode cX7_jam 72 = .ok (.iload_n 1, 1) := by decide +kernel
theorem dX7_jam_73 : decode cX7_jam 73 = .ok (.iaload, 1) := by decide +kernel
theorem dX7_jam_74 : decode cX7_jam 74 = .ok (.iastore, 1) := by decide +kernel
theorem dX7_jam_75 : decode cX7_jam 75 = .ok (.aload_n 0, 1) := by decide +kernel
theorem dX7_jam_76 : decode cX7_jam 76 = .ok (.getfield 20, 3) := by decide +kernel
theorem dX7_jam_79 : decode cX7_jam 79 = .ok (.iload_n 1, 1) := by decide +kernel
theorem dX7_jam_80 : decode cX7_jam 80 = .ok (.iaload, 1) := by decide +kernel
theorem dX7_jam_81 : decode cX7_jam 81 = .ok (.ireturn, 1) := by decide +kernel
def pX7_jam_b74  (x1 : Int32) (y0 : Int32) (y1 : Int32) (v : St) : Option (Int32 × St) := if (y1 < 0 ∨ 6 ≤ y1.toNatClampNeg) then none else (if (x1 < 0 ∨ 6 ≤ x1.toNatClampNeg) then none else (some ((sA v 3 (upd (v.1 3) y1.toNatClampNeg y0)).1 3 x1.toNatClampNeg, sA v 3 (upd (v.1 3) y1.toNatClampNeg y0))))
def pX7_jam_b27  (x1 : Int32) (x2 : Int32) (y0 : Int32) (v : St) : Option (Int32 × St) := if ((sS v 0 y0).2 0) ≤ 0 then (if (x1 < 0 ∨ 6 ≤ x1.toNatClampNeg) then none else (if (((sS v 0 y0).2 7) + x2) ≤ ((sS v 0 y0).1 3 x1.toNatClampNeg) then (if (x1 < 0 ∨ 6 ≤ x1.toNatClampNeg) then none else (pX7_jam_b74 x1 ((sS v 0 y0).1 3 x1.toNatClampNeg) x1 (sS v 0 y0))) else (pX7_jam_b74 x1 (((sS v 0 y0).2 7) + x2) x1 (sS v 0 y0)))) else (some (0, sS v 0 y0))
def pX7_jam (a1 : Int32) (a2 : Int32) (u : St) : Option (Int32 × St) := if (pX7_isBay a1) = 0 then (pX7_jam_b27 a1 a2 1 u) else (if (pX7_in a2 1 50) = 0 then (pX7_jam_b27 a1 a2 2 u) else (pX7_jam_b27 a1 a2 0 u))
set_option maxHeartbeats 4000000 in
set_option maxRecDepth 20000 in
theorem kX7_jam {l : Launch} {D : va_G} {Y : Nat → ClassId} {q : Nat → Nat} {a1 a2 : Int32} {u u1 : St} {r : Int32} (hX : pX7_jam a1 a2 u = some (r, u1)) : CMi l yX7_jam cX7_jam 3 (some .int) 2 42 D Y (wM Y q u) (wM Y q u1) [.ref (q 0), .int a1, .int a2] r := by
  refine cm_ofi (by decide) (Nat.le_of_ble_eq_true rfl) rfl (fun p e s m args below meth c A F hr hlk => ?_)
  show GW p l e { frames := 2, cells := 0, slots := 0, locals := 42 } s m args below meth c D A 3 0 0 (MQ below (QI D (wM Y q u1) r A) args s 0 0 A) (wM Y q u) 0 [(0, .ref (q 0)), (1, .int a1), (2, .int a2)] []
  have b74 : ∀  (x1 : Int32) (y0 : Int32) (y1 : Int32) (v : St), pX7_jam_b74  x1 y0 y1 v = some (r, u1) → GW p l e { frames := 2, cells := 0, slots := 0, locals := 42 } s m args below meth c D A 3 0 0 (MQ below (QI D (wM Y q u1) r A) args s 0 0 A) (wM Y q v) 74 [(0, .ref (q 0)), (1, .int x1)] [.int y0, .int y1, .ref (q 4)] := by
    intro  x1 y0 y1 v hX
    have hX : (if (y1 < 0 ∨ 6 ≤ y1.toNatClampNeg) then none else (if (x1 < 0 ∨ 6 ≤ x1.toNatClampNeg) then none else (some ((sA v 3 (upd (v.1 3) y1.toNatClampNeg y0)).1 3 x1.toNatClampNeg, sA v 3 (upd (v.1 3) y1.toNatClampNeg y0))))) = some (r, u1) := hX
    obtain ⟨hI7, hX⟩ := inb hX
    refine AS_3 F hI7 dX7_jam_74 ?_
    refine g_aload_n F dX7_jam_75 0 rfl rfl ?_
    refine G_X7_20 F dX7_jam_76 ?_
    refine g_iload_n F dX7_jam_79 1 rfl rfl ?_
    obtain ⟨hI8, hX⟩ := inb hX
    refine AL_3 F hI8 dX7_jam_80 ?_
    exact g_retC (wf := wM Y q) F hr rfl hlk dX7_jam_81 hX
  have b27 : ∀  (x1 : Int32) (x2 : Int32) (y0 : Int32) (v : St), pX7_jam_b27  x1 x2 y0 v = some (r, u1) → GW p l e { frames := 2, cells := 0, slots := 0, locals := 42 } s m args below meth c D A 3 0 0 (MQ below (QI D (wM Y q u1) r A) args s 0 0 A) (wM Y q v) 27 [(0, .ref (q 0)), (1, .int x1), (2, .int x2)] [.int y0, .ref (q 0)] := by
    intro  x1 x2 y0 v hX
    have hX : (if ((sS v 0 y0).2 0) ≤ 0 then (if (x1 < 0 ∨ 6 ≤ x1.toNatClampNeg) then none else (if (((sS v 0 y0).2 7) + x2) ≤ ((sS v 0 y0).1 3 x1.toNatClampNeg) then (if (x1 < 0 ∨ 6 ≤ x1.toNatClampNeg) then none else (pX7_jam_b74 x1 ((sS v 0 y0).1 3 x1.toNatClampNeg) x1 (sS v 0 y0))) else (pX7_jam_b74 x1 (((sS v 0 y0).2 7) + x2) x1 (sS v 0 y0)))) else (some (0, sS v 0 y0))) = some (r, u1) := hX
    refine P_X7_87 F dX7_jam_27 ?_
    refine g_aload_n F dX7_jam_30 0 rfl rfl ?_
    refine G_X7_87 F dX7_jam_31 ?_
    refine g_if_le (tgt := 39) F dX7_jam_34 (by decide) (fun c3 => ?_) (fun c3 => ?_)
    · have hX := if_t hX c3
      refine g_aload_n F dX7_jam_39 0 rfl rfl ?_
      refine G_X7_20 F dX7_jam_40 ?_
      refine g_iload_n F dX7_jam_43 1 rfl rfl ?_
      refine g_aload_n F dX7_jam_44 0 rfl rfl ?_
      refine G_X7_114 F dX7_jam_45 ?_
      refine g_iload_n F dX7_jam_48 2 rfl rfl ?_
      refine g_iadd F dX7_jam_49 ?_
      refine g_aload_n F dX7_jam_50 0 rfl rfl ?_
      refine G_X7_20 F dX7_jam_51 ?_
      refine g_iload_n F dX7_jam_54 1 rfl rfl ?_
      obtain ⟨hI4, hX⟩ := inb hX
      refine AL_3 F hI4 dX7_jam_55 ?_
      refine g_icmp_le (tgt := 68) F dX7_jam_56 (by decide) (fun c5 => ?_) (fun c5 => ?_)
      · have hX := if_t hX c5
        refine g_aload_n F dX7_jam_68 0 rfl rfl ?_
        refine G_X7_20 F dX7_jam_69 ?_
        refine g_iload_n F dX7_jam_72 1 rfl rfl ?_
        obtain ⟨hI6, hX⟩ := inb hX
        refine AL_3 F hI6 dX7_jam_73 ?_
        refine g_sub [0, 1] rfl ?_
        exact b74 x1 ((sS v 0 y0).1 3 x1.toNatClampNeg) x1 (sS v 0 y0) hX
      · have hX := if_f hX c5
        refine g_aload_n F dX7_jam_59 0 rfl rfl ?_
        refine G_X7_114 F dX7_jam_60 ?_
        refine g_iload_n F dX7_jam_63 2 rfl rfl ?_
        refine g_iadd F dX7_jam_64 ?_
        refine g_goto (tgt := 74) F dX7_jam_65 (by decide) ?_
        refine g_sub [0, 1] rfl ?_
        exact b74 x1 (((sS v 0 y0).2 7) + x2) x1 (sS v 0 y0) hX
    · have hX := if_f hX c3
      refine g_iconst (v := 0) F dX7_jam_37 (by decide) ?_
      exact g_retC (wf := wM Y q) F hr rfl hlk dX7_jam_38 hX
  have hX : (if (pX7_isBay a1) = 0 then (pX7_jam_b27 a1 a2 1 u) else (if (pX7_in a2 1 50) = 0 then (pX7_jam_b27 a1 a2 2 u) else (pX7_jam_b27 a1 a2 0 u))) = some (r, u1) := hX
  refine g_aload_n F dX7_jam_0 0 rfl rfl ?_
  refine g_iload_n F dX7_jam_1 1 rfl rfl ?_
  refine callX7_isBay F ml_X7_111 ⟨Nat.le_of_ble_eq_true rfl, Nat.le_of_ble_eq_true rfl⟩ (Nat.le_of_ble_eq_true rfl) dX7_jam_2 ?_
  refine g_if_ne (tgt := 12) F dX7_jam_5 (by decide) (fun c1 => ?_) (fun c1 => ?_)
  · have hX := if_f hX c1
    refine g_iload_n F dX7_jam_12 2 rfl rfl ?_
    refine g_iconst (v := 1) F dX7_jam_13 (by decide) ?_
    refine g_bipush (v := 50) F dX7_jam_14 (by decide) ?_
    refine callX7_in F ml_X7_90 ⟨Nat.le_of_ble_eq_true rfl, Nat.le_of_ble_eq_true rfl⟩ (Nat.le_of_ble_eq_true rfl) dX7_jam_16 ?_
    refine g_if_eq (tgt := 26) F dX7_jam_19 (by decide) (fun c2 => ?_) (fun c2 => ?_)
    · have hX := if_t hX c2
      refine g_iconst (v := 2) F dX7_jam_26 (by decide) ?_
      exact b27 a1 a2 2 u hX
    · have hX := if_f hX c2
      refine g_iconst (v := 0) F dX7_jam_22 (by decide) ?_
      refine g_goto (tgt := 27) F dX7_jam_23 (by decide) ?_
      exact b27 a1 a2 0 u hX
  · have hX := if_t hX c1
    refine g_iconst (v := 1) F dX7_jam_8 (by decide) ?_
    refine g_goto (tgt := 27) F dX7_jam_9 (by decide) ?_
    exact b27 a1 a2 1 u hX
theorem callX7_jam {p : Program} {l : Launch} {e : Env} {R : Room} {s : State} {m : MethodId} {args : Array Value} {below : List Frame} {meth : Method} {c : Code} {D : va_G} {Y : Nat → ClassId} {A : Nat → Prop} {cc : ByteArray} {nL : Nat} {own : String} {Q : State → Prop} {pc : Nat} {lv : List (Nat × Value)} {rest : List Value} {q : Nat → Nat} {a1 a2 : Int32} {u u1 : St} {r : Int32} (F : Fx p s m args c D Y A cc nL own) (hX : pX7_jam a1 a2 u = some (r, u1)) {index : Nat} (hml : Cond.methodLink own index yX7_jam ∈ TBL) (hR : 2 + 1 ≤ R.frames ∧ 8 + (3 + 11) + 42 ≤ R.locals) (hcat : (rest.map fun v => v.category).sum ≤ 8) (hd : decode cc pc = .ok (.invokevirtual index, 3)) (kk : GW p l e R s m args below meth c D A nL 0 0 Q (wM Y q u1) (pc + 3) lv (.int r :: rest)) : GW p l e R s m args below meth c D A nL 0 0 Q (wM Y q u) pc lv (.int a2 :: .int a1 :: .ref (q 0) :: rest) := g_callVi (ws := wM Y q u) (n := 2) (q0 := 0) (As := [.int a1, .int a2]) F [] [] (kX7_jam hX) (List.append_nil _).symm (List.append_nil _) (by unfold mOK; decide +kernel) rfl rfl cd_yX7_jam hml im_yX7_jam se_yX7_jam in_X7 rfl rfl hR ⟨Nat.zero_le _, Nat.zero_le _⟩ rfl hcat hd kk
theorem dX7_crane_0 : decode cX7_crane 0 = .ok (.aload_n 0, 1) := by decide +kernel
theorem dX7_crane_1 : decode cX7_crane 1 = .ok (.iload_n 1, 1) := by decide +kernel
theorem dX7_crane_2 : decode cX7_crane 2 = .ok (.invokestatic 117, 3) := by decide +kernel
theorem dX7_crane_5 : decode cX7_crane 5 = .ok (.ifCond .ne 7, 3) := by decide +kernel
theorem dX7_crane_8 : decode cX7_crane 8 = .ok (.iconst 1, 1) := by decide +kernel
theorem dX7_crane_9 : decode cX7_crane 9 = .ok (.goto 34, 3) := by decide +kernel
theorem dX7_crane_12 : decode cX7_crane 12 = .ok (.iload_n 2, 1) := by decide +kernel
theorem dX7_crane_13 : decode cX7_crane 13 = .ok (.invokestatic 111, 3) := by decide +kernel
theorem dX7_crane_16 : decode cX7_crane 16 = .ok (.ifCond .eq 26, 3) := by decide +kernel
theorem dX7_crane_19 : decode cX7_crane 19 = .ok (.iload_n 3, 1) := by decide +kernel
theorem dX7_crane_20 : decode cX7_crane 20 = .ok (.iload_n 2, 1) := by decide +kernel
theorem dX7_crane_21 : decode cX7_crane 21 = .ok (.iconst 5, 1) := by decide +kernel
theorem dX7_crane_22 : decode cX7_crane 22 = .ok (.invokestatic 90, 3) := by decide +kernel
theorem dX7_crane_25 : decode cX7_crane 25 = .ok (.ifCond .eq 17, 3) := by decide +kernel
theorem dX7_crane_28 : decode cX7_crane 28 = .ok (.iload 4, 2) := by decide +kernel
theorem dX7_crane_30 : decode cX7_crane 30 = .ok (.iconst 1, 1) := by decide +kernel
theorem dX7_crane_31 : decode cX7_crane 31 = .ok (.iconst 4, 1) := by decide +kernel
theorem dX7_crane_32 : decode cX7_crane 32 = .ok (.invokestatic 90, 3) := by decide +kernel
theorem dX7_crane_35 : decode cX7_crane 35 = .ok (.ifCond .eq 7, 3) := by decide +kernel
theorem dX7_crane_38 : decode cX7_crane 38 = .ok (.iconst 0, 1) := by decide +kernel
theorem dX7_crane_39 : decode cX7_crane 39 = .ok (.goto 4, 3) := by decide +kernel
theorem dX7_crane_42 : decode cX7_crane 42 = .ok (.iconst 2, 1) := by decide +kernel
theorem dX7_crane_43 : decode cX7_crane 43 = .ok (.putfield 87, 3) := by decide +kernel
theorem dX7_crane_46 : decode cX7_crane 46 = .ok (.aload_n 0, 1) := by decide +kernel
theorem dX7_crane_47 : decode cX7_crane 47 = .ok (.getfield 87, 3) := by decide +kernel
theorem dX7_crane_50 : decode cX7_crane 50 = .ok (.ifCond .ne 25, 3) := by decide +kernel
theorem dX7_crane_53 : decode cX7_crane 53 = .ok (.aload_n 0, 1) := by decide +kernel
theorem dX7_crane_54 : decode cX7_crane 54 = .ok (.getfield 66, 3) := by decide +kernel
theorem dX7_crane_57 : decode cX7_crane 57 = .ok (.iload_n 1, 1) := by decide +kernel
theorem dX7_crane_58 : decode cX7_crane 58 = .ok (.iload_n 2, 1) := by decide +kernel
theorem dX7_crane_59 : decode cX7_crane 59 = .ok (.iastore, 1) := by decide +kernel
theorem dX7_crane_60 : decode cX7_crane 60 = .ok (.aload_n 0, 1) := by decide +kernel
theorem dX7_crane_61 : decode cX7_crane 61 = .ok (.getfield 69, 3) := by decide +kernel
theorem dX7_crane_64 : decode cX7_crane 64 = .ok (.iload_n 1, 1) := by decide +kernel
theorem dX7_crane_65 : decode cX7_crane 65 = .ok (.iload_n 3, 1) := by decide +kernel
theorem dX7_crane_66 : decode cX7_crane 66 = .ok (.iastore, 1) := by decide +kernel
theorem dX7_crane_67 : decode cX7_crane 67 = .ok (.aload_n 0, 1) := by decide +kernel
theorem dX7_crane_68 : decode cX7_crane 68 = .ok (.getfield 72, 3) := by decide +kernel
theorem dX7_crane_71 : decode cX7_crane 71 = .ok (.iload_n 1, 1) := by decide +kernel
theorem dX7_crane_72 : decode cX7_crane 72 = .ok (.iload 4, 2) := by decide +kernel
theorem dX7_crane_74 : decode cX7_crane 74 = .ok (.iastore, 1) := by decide +kernel
theorem dX7_crane_75 : decode cX7_crane 75 = .ok (.return_, 1) := by decide +kernel
def pX7_crane_b43  (x1 : Int32) (x2 : Int32) (x3 : Int32) (x4 : Int32) (y0 : Int32) (v : St) : Option (Int32 × St) := if ((sS v 0 y0).2 0) = 0 then (if (x1 < 0 ∨ 2 ≤ x1.toNatClampNeg) then none else (if (x1 < 0 ∨ 2 ≤ x1.toNatClampNeg) then none else (if (x1 < 0 ∨ 2 ≤ x1.toNatClampNeg) then none else (some (0, sA (sA (sA (sS v 0 y0) 15 (upd ((sS v 0 y0).1 15) x1.toNatClampNeg x2)) 16 (upd ((sA (sS v 0 y0) 15 (upd ((sS v 0 y0).1 15) x1.toNatClampNeg x2)).1 16) x1.toNatClampNeg x3)) 17 (upd ((sA (sA (sS v 0 y0) 15 (upd ((sS v 0 y0).1 15) x1.toNatClampNeg x2)) 16 (upd ((sA (sS v 0 y0) 15 (upd ((sS v 0 y0).1 15) x1.toNatClampNeg x2)).1 16) x1.toNatClampNeg x3)).1 17) x1.toNatClampNeg x4)))))) else (some (0, sS v 0 y0))
def pX7_crane_b42  (x1 : Int32) (x2 : Int32) (x3 : Int32) (x4 : Int32) (v : St) : Option (Int32 × St) := pX7_crane_b43 x1 x2 x3 x4 2 v
def pX7_crane (a1 : Int32) (a2 : Int32) (a3 : Int32) (a4 : Int32) (u : St) : Option (Int32 × St) := if (pX7_isCrane a1) = 0 then (pX7_crane_b43 a1 a2 a3 a4 1 u) else (if (pX7_isBay a2) = 0 then (pX7_crane_b42 a1 a2 a3 a4 u) else (if (pX7_in a3 a2 5) = 0 then (pX7_crane_b42 a1 a2 a3 a4 u) else (if (pX7_in a4 1 4) = 0 then (pX7_crane_b42 a1 a2 a3 a4 u) else (pX7_crane_b43 a1 a2 a3 a4 0 u))))
set_option maxHeartbeats 4000000 in
set_option maxRecDepth 20000 in
theorem kX7_crane {l : Launch} {D : va_G} {Y : Nat → ClassId} {q : Nat → Nat} {a1 a2 a3 a4 : Int32} {u u1 : St} {r : Int32} (hX : pX7_crane a1 a2 a3 a4 u = some (r, u1)) : CMv l yX7_crane cX7_crane 5 2 42 D Y (wM Y q u) (wM Y q u1) [.ref (q 0), .int a1, .int a2, .int a3, .int a4] := by
  refine cm_ofv (by decide) (Nat.le_of_ble_eq_true rfl) rfl (fun p e s m args below meth c A F hr hlk => ?_)
  show GW p l e { frames := 2, cells := 0, slots := 0, locals := 42 } s m args below meth c D A 5 0 0 (MQ below (QV D (wM Y q u1) A) args s 0 0 A) (wM Y q u) 0 [(0, .ref (q 0)), (1, .int a1), (2, .int a2), (3, .int a3), (4, .int a4)] []
  have b43 : ∀  (x1 : Int32) (x2 : Int32) (x3 : Int32) (x4 : Int32) (y0 : Int32) (v : St), pX7_crane_b43  x1 x2 x3 x4 y0 v = some (r, u1) → GW p l e { frames := 2, cells := 0, slots := 0, locals := 42 } s m args below meth c D A 5 0 0 (MQ below (QV D (wM Y q u1) A) args s 0 0 A) (wM Y q v) 43 [(0, .ref (q 0)), (1, .int x1), (2, .int x2), (3, .int x3), (4, .int x4)] [.int y0, .ref (q 0)] := by
    intro  x1 x2 x3 x4 y0 v hX
    have hX : (if ((sS v 0 y0).2 0) = 0 then (if (x1 < 0 ∨ 2 ≤ x1.toNatClampNeg) then none else (if (x1 < 0 ∨ 2 ≤ x1.toNatClampNeg) then none else (if (x1 < 0 ∨ 2 ≤ x1.toNatClampNeg) then none else (some (0, sA (sA (sA (sS v 0 y0) 15 (upd ((sS v 0 y0).1 15) x1.toNatClampNeg x2)) 16 (upd ((sA (sS v 0 y0) 15 (upd ((sS v 0 y0).1 15) x1.toNatClampNeg x2)).1 16) x1.toNatClampNeg x3)) 17 (upd ((sA (sA (sS v 0 y0) 15 (upd ((sS v 0 y0).1 15) x1.toNatClampNeg x2)) 16 (upd ((sA (sS v 0 y0) 15 (upd ((sS v 0 y0).1 15) x1.toNatClampNeg x2)).1 16) x1.toNatClampNeg x3)).1 17) x1.toNatClampNeg x4)))))) else (some (0, sS v 0 y0))) = some (r, u1) := hX
    refine P_X7_87 F dX7_crane_43 ?_
    refine g_aload_n F dX7_crane_46 0 rfl rfl ?_
    refine G_X7_87 F dX7_crane_47 ?_
    refine g_if_ne (tgt := 75) F dX7_crane_50 (by decide) (fun c3 => ?_) (fun c3 => ?_)
    · have hX := if_f hX c3
      exact g_retV (wf := wM Y q) F hr hlk dX7_crane_75 hX
    · have hX := if_t hX c3
      refine g_aload_n F dX7_crane_53 0 rfl rfl ?_
      refine G_X7_66 F dX7_crane_54 ?_
      refine g_iload_n F dX7_crane_57 1 rfl rfl ?_
      refine g_iload_n F dX7_crane_58 2 rfl rfl ?_
      obtain ⟨hI4, hX⟩ := inb hX
      refine AS_15 F hI4 dX7_crane_59 ?_
      refine g_aload_n F dX7_crane_60 0 rfl rfl ?_
      refine G_X7_69 F dX7_crane_61 ?_
      refine g_iload_n F dX7_crane_64 1 rfl rfl ?_
      refine g_iload_n F dX7_crane_65 3 rfl rfl ?_
      obtain ⟨hI5, hX⟩ := inb hX
      refine AS_16 F hI5 dX7_crane_66 ?_
      refine g_aload_n F dX7_crane_67 0 rfl rfl ?_
      refine G_X7_72 F dX7_crane_68 ?_
      refine g_iload_n F dX7_crane_71 1 rfl rfl ?_
      refine g_iload F dX7_crane_72 4 rfl ?_
      obtain ⟨hI6, hX⟩ := inb hX
      refine AS_17 F hI6 dX7_crane_74 ?_
      exact g_retV (wf := wM Y q) F hr hlk dX7_crane_75 hX
  have b42 : ∀  (x1 : Int32) (x2 : Int32) (x3 : Int32) (x4 : Int32) (v : St), pX7_crane_b42  x1 x2 x3 x4 v = some (r, u1) → GW p l e { frames := 2, cells := 0, slots := 0, locals := 42 } s m args below meth c D A 5 0 0 (MQ below (QV D (wM Y q u1) A) args s 0 0 A) (wM Y q v) 42 [(0, .ref (q 0)), (1, .int x1), (2, .int x2), (3, .int x3), (4, .int x4)] [.ref (q 0)] := by
    intro  x1 x2 x3 x4 v hX
    have hX : (pX7_crane_b43 x1 x2 x3 x4 2 v) = some (r, u1) := hX
    refine g_iconst (v := 2) F dX7_crane_42 (by decide) ?_
    exact b43 x1 x2 x3 x4 2 v hX
  have hX : (if (pX7_isCrane a1) = 0 then (pX7_crane_b43 a1 a2 a3 a4 1 u) else (if (pX7_isBay a2) = 0 then (pX7_crane_b42 a1 a2 a3 a4 u) else (if (pX7_in a3 a2 5) = 0 then (pX7_crane_b42 a1 a2 a3 a4 u) else (if (pX7_in a4 1 4) = 0 then (pX7_crane_b42 a1 a2 a3 a4 u) else (pX7_crane_b43 a1 a2 a3 a4 0 u))))) = some (r, u1) := hX
  refine g_aload_n F dX7_crane_0 0 rfl rfl ?_
  refine g_iload_n F dX7_crane_1 1 rfl rfl ?_
  refine callX7_isCrane F ml_X7_117 ⟨Nat.le_of_ble_eq_true rfl, Nat.le_of_ble_eq_true rfl⟩ (Nat.le_of_ble_eq_true rfl) dX7_crane_2 ?_
  refine g_if_ne (tgt := 12) F dX7_crane_5 (by decide) (fun c1 => ?_) (fun c1 => ?_)
  · have hX := if_f hX c1
    refine g_iload_n F dX7_crane_12 2 rfl rfl ?_
    refine callX7_isBay F ml_X7_111 ⟨Nat.le_of_ble_eq_true rfl, Nat.le_of_ble_eq_true rfl⟩ (Nat.le_of_ble_eq_true rfl) dX7_crane_13 ?_
    refine g_if_eq (tgt := 42) F dX7_crane_16 (by decide) (fun c2 => ?_) (fun c2 => ?_)
    · have hX := if_t hX c2
      exact b42 a1 a2 a3 a4 u hX
    · have hX := if_f hX c2
      refine g_iload_n F dX7_crane_19 3 rfl rfl ?_
      refine g_iload_n F dX7_crane_20 2 rfl rfl ?_
      refine g_iconst (v := 5) F dX7_crane_21 (by decide) ?_
      refine callX7_in F ml_X7_90 ⟨Nat.le_of_ble_eq_true rfl, Nat.le_of_ble_eq_true rfl⟩ (Nat.le_of_ble_eq_true rfl) dX7_crane_22 ?_
      refine g_if_eq (tgt := 42) F dX7_crane_25 (by decide) (fun c7 => ?_) (fun c7 => ?_)
      · have hX := if_t hX c7
        exact b42 a1 a2 a3 a4 u hX
      · have hX := if_f hX c7
        refine g_iload F dX7_crane_28 4 rfl ?_
        refine g_iconst (v := 1) F dX7_crane_30 (by decide) ?_
        refine g_iconst (v := 4) F dX7_crane_31 (by decide) ?_
        refine callX7_in F ml_X7_90 ⟨Nat.le_of_ble_eq_true rfl, Nat.le_of_ble_eq_true rfl⟩ (Nat.le_of_ble_eq_true rfl) dX7_crane_32 ?_
        refine g_if_eq (tgt := 42) F dX7_crane_35 (by decide) (fun c8 => ?_) (fun c8 => ?_)
        · have hX := if_t hX c8
          exact b42 a1 a2 a3 a4 u hX
        · have hX := if_f hX c8
          refine g_iconst (v := 0) F dX7_crane_38 (by decide) ?_
          refine g_goto (tgt := 43) F dX7_crane_39 (by decide) ?_
          exact b43 a1 a2 a3 a4 0 u hX
  · have hX := if_t hX c1
    refine g_iconst (v := 1) F dX7_crane_8 (by decide) ?_
    refine g_goto (tgt := 43) F dX7_crane_9 (by decide) ?_
    exact b43 a1 a2 a3 a4 1 u hX
theorem callX7_crane {p : Program} {l : Launch} {e : Env} {R : Room} {s : State} {m : MethodId} {args : Array Value} {below : List Frame} {meth : Method} {c : Code} {D : va_G} {Y : Nat → ClassId} {A : Nat → Prop} {cc : ByteArray} {nL : Nat} {own : String} {Q : State → Prop} {pc : Nat} {lv : List (Nat × Value)} {rest : List Value} {q : Nat → Nat} {a1 a2 a3 a4 : Int32} {u u1 : St} {r : Int32} (F : Fx p s m args c D Y A cc nL own) (hX : pX7_crane a1 a2 a3 a4 u = some (r, u1)) {index : Nat} (hml : Cond.methodLink own index yX7_crane ∈ TBL) (hR : 2 + 1 ≤ R.frames ∧ 8 + (5 + 11) + 42 ≤ R.locals) (hcat : (rest.map fun v => v.category).sum ≤ 8) (hd : decode cc pc = .ok (.invokevirtual index, 3)) (kk : GW p l e R s m args below meth c D A nL 0 0 Q (wM Y q u1) (pc + 3) lv (rest)) : GW p l e R s m args below meth c D A nL 0 0 Q (wM Y q u) pc lv (.int a4 :: .int a3 :: .int a2 :: .int a1 :: .ref (q 0) :: rest) := g_callVv (ws := wM Y q u) (n := 4) (q0 := 0) (As := [.int a1, .int a2, .int a3, .int a4]) F [] [] (kX7_crane hX) (List.append_nil _).symm (List.append_nil _) (by unfold mOK; decide +kernel) rfl rfl cd_yX7_crane hml im_yX7_crane se_yX7_crane in_X7 rfl rfl hR ⟨Nat.zero_le _, Nat.zero_le _⟩ rfl hcat hd kk
theorem dX7_box_0 : decode cX7_box 0 = .ok (.iload_n 1, 1) := by decide +kernel
theorem dX7_box_1 : decode cX7_box 1 = .ok (.iconst 1, 1) := by decide +kernel
theorem dX7_box_2 : decode cX7_box 2 = .ok (.bipush 40, 2) := by decide +kernel
theorem dX7_box_4 : decode cX7_box 4 = .ok (.invokestatic 90, 3) := by decide +kernel
theorem dX7_box_7 : decode cX7_box 7 = .ok (.ifCond .eq 27, 3) := by decide +kernel
theorem dX7_box_10 : decode cX7_box 10 = .ok (.iload_n 2, 1) := by decide +kernel
theorem dX7_box_11 : decode cX7_box 11 = .ok (.iconst 1, 1) := by decide +kernel
theorem dX7_box_12 : decode cX7_box 12 = .ok (.bipush 40, 2) := by decide +kernel
theorem dX7_box_14 : decode cX7_box 14 = .ok (.invokestatic 90, 3) := by decide +kernel
theorem dX7_box_17 : decode cX7_box 17 = .ok (.ifCond .eq 17, 3) := by decide +kernel
theorem dX7_box_20 : decode cX7_box 20 = .ok (.iload 4, 2) := by decide +kernel
theorem dX7_box_22 : decode cX7_box 22 = .ok (.iconst 0, 1) := by decide +kernel
theorem dX7_box_23 : decode cX7_box 23 = .ok (.iconst 4, 1) := by decide +kernel
theorem dX7_box_24 : decode cX7_box 24 = .ok (.invokestatic 90, 3) := by decide +kernel
theorem dX7_box_27 : decode cX7_box 27 = .ok (.ifCond .eq 7, 3) := by decide +kernel
theorem dX7_box_30 : decode cX7_box 30 = .ok (.iconst 1, 1) := by decide +kernel
theorem dX7_box_31 : decode cX7_box 31 = .ok (.goto 4, 3) := by decide +kernel
theorem dX7_box_34 : decode cX7_box 34 = .ok (.iconst 0, 1) := by decide +kernel
theorem dX7_box_35 : decode cX7_box 35 = .ok (.istore 6, 2) := by decide +kernel
theorem dX7_box_37 : decode cX7_box 37 = .ok (.aload_n 0, 1) := by decide +kernel
theorem dX7_box_38 : decode cX7_box 38 = .ok (.iload_n 3, 1) := by decide +kernel
theorem dX7_box_39 : decode cX7_box 39 = .ok (.iconst 0, 1) := by decide +kernel
theorem dX7_box_40 : decode cX7_box 40 = .ok (.bipush 9, 2) := by decide +kernel
theorem dX7_box_42 : decode cX7_box 42 = .ok (.invokestatic 90, 3) := by decide +kernel
theorem dX7_box_45 : decode cX7_box 45 = .ok (.ifCond .eq 11, 3) := by decide +kernel
theorem dX7_box_48 : decode cX7_box 48 = .ok (.iload 5, 2) := by decide +kernel
theorem dX7_box_50 : decode cX7_box 50 = .ok (.invokestatic 133, 3) := by decide +kernel
theorem dX7_box_53 : decode cX7_box 53 = .ok (.ifCond .ne 7, 3) := by decide +kernel
theorem dX7_box_56 : decode cX7_box 56 = .ok (.iconst 1, 1) := by decide +kernel
theorem dX7_box_57 : decode cX7_box 57 = .ok (.goto 13, 3) := by decide +kernel
theorem dX7_box_60 : decode cX7_box 60 = .ok (.iload 6, 2) := by decide +kernel
theorem dX7_box_62 : decode cX7_box 62 = .ok (.ifCond .eq 7, 3) := by decide +kernel
theorem dX7_box_65 : decode cX7_box 65 = .ok (.iconst 0, 1) := by decide +kernel
theorem dX7_box_66 : decode cX7_box 66 = .ok (.goto 4, 3) := by decide +kernel
theorem dX7_box_69 : decode cX7_box 69 = .ok (.iconst 2, 1) := by decide +kernel
theorem dX7_box_70 : decode cX7_box 70 = .ok (.putfield 87, 3) := by decide +kernel
theorem dX7_box_73 : decode cX7_box 73 = .ok (.aload_n 0, 1) := by decide +kernel
theorem dX7_box_74 : decode cX7_box 74 = .ok (.getfield 87, 3) := by decide +kernel
theorem dX7_box_77 : decode cX7_box 77 = .ok (.ifCond .le 5, 3) := by decide +kernel
theorem dX7_box_80 : decode cX7_box 80 = .ok (.iconst 0, 1) := by decide +kernel
theorem dX7_box_81 : decode cX7_box 81 = .ok (.ireturn, 1) := by decide +kernel
theorem dX7_box_82 : decode cX7_box 82 = .ok (.aload_n 0, 1) := by decide +kernel
theorem dX7_box_83 : decode cX7_box 83 = .ok (.getfield 94, 3) := by decide +kernel
theorem dX7_box_86 : decode cX7_box 86 = .ok (.bipush 60, 2) := by decide +kernel
theorem dX7_box_88 : decode cX7_box 88 = .ok (.if_icmp .ne 7, 3) := by decide +kernel
theorem dX7_box_91 : decode cX7_box 91 = .ok (.iconst 1, 1) := by decide +kernel
theorem dX7_box_92 : decode cX7_box 92 = .ok (.goto 4, 3) := by decide +kernel
theorem dX7_box_95 : decode cX7_box 95 = .ok (.iconst 0, 1) := by decide +kernel
theorem dX7_box_96 : decode cX7_box 96 = .ok (.istore 7, 2) := by decide +kernel
theorem dX7_box_98 : decode cX7_box 98 = .ok (.iload 7, 2) := by decide +kernel
theorem dX7_box_100 : decode cX7_box 100 = .ok (.ifCond .ne 13, 3) := by decide +kernel
theorem dX7_box_103 : decode cX7_box 103 = .ok (.aload_n 0, 1) := by decide +kernel
theorem dX7_box_104 : decode cX7_box 104 = .ok (.getfield 36, 3) := by decide +kernel
theorem dX7_box_107 : decode cX7_box 107 = .ok (.aload_n 0, 1) := by decide +kernel
theorem dX7_box_108 : decode cX7_box 108 = .ok (.getfield 94, 3) := by decide +kernel
theorem dX7_box_111 : decode cX7_box 111 = .ok (.iload_n 1, 1) := by decide +kernel
theorem dX7_box_112 : decode cX7_box 112 = .ok (.iastore, 1) := by decide +kernel
theorem dX7_box_113 : decode cX7_box 113 = .ok (.aload_n 0, 1) := by decide +kernel
theorem dX7_box_114 : decode cX7_box 114 = .ok (.iload 7, 2) := by decide +kernel
theorem dX7_box_116 : decode cX7_box 116 = .ok (.ifCond .ne 16, 3) := by decide +kernel
theorem dX7_box_119 : decode cX7_box 119 = .ok (.aload_n 0, 1) := by decide +kernel
theorem dX7_box_120 : decode cX7_box 120 = .ok (.aload_n 0, 1) := by decide +kernel
theorem dX7_box_121 : decode cX7_box 121 = .ok (.getfield 94, 3) := by decide +kernel
theorem dX7_box_124 : decode cX7_box 124 = .ok (.iload 5, 2) := by decide +kernel
theorem dX7_box_126 : decode cX7_box 126 = .ok (.invokevirtual 136, 3) := by decide +kernel
theorem dX7_box_129 : decode cX7_box 129 = .ok (.ifCond .ne 7, 3) := by decide +kernel
theorem dX7_box_132 : decode cX7_box 132 = .ok (.iconst 3, 1) := by decide +kernel
theorem dX7_box_133 : decode cX7_box 133 = .ok (.goto 4, 3) := by decide +kernel
theorem dX7_box_136 : decode cX7_box 136 = .ok (.iconst 0, 1) := by decide +kernel
theorem dX7_box_137 : decode cX7_box 137 = .ok (.putfield 87, 3) := by decide +kernel
theorem dX7_box_140 : decode cX7_box 140 = .ok (.aload_n 0, 1) := by decide +kernel
theorem dX7_box_141 : decode cX7_box 141 = .ok (.getfield 87, 3) := by decide +kernel
theorem dX7_box_144 : decode cX7_box 144 = .ok (.ifCond .le 5, 3) := by decide +kernel
theorem dX7_box_147 : decode cX7_box 147 = .ok (.iconst 0, 1) := by decide +kernel
theorem dX7_box_148 : decode cX7_box 148 = .ok (.ireturn, 1) := by decide +kernel
theorem dX7_box_149 : decode cX7_box 149 = .ok (.aload_n 0, 1) := by decide +kernel
theorem dX7_box_150 : decode cX7_box 150 = .ok (.getfield 39, 3) := by decide +kernel
theorem dX7_box_153 : decode cX7_box 153 = .ok (.aload_n 0, 1) := by decide +kernel
theorem dX7_box_154 : decode cX7_box 154 = .ok (.getfield 94, 3) := by decide +kernel
theorem dX7_box_157 : decode cX7_box 157 = .ok (.iload_n 2, 1) := by decide +kernel
theorem dX7_box_158 : decode cX7_box 158 = .ok (.iastore, 1) := by decide +kernel
theorem dX7_box_159 : decode cX7_box 159 = .ok (.aload_n 0, 1) := by decide +kernel
theorem dX7_box_160 : decode cX7_box 160 = .ok (.getfield 42, 3) := by decide +kernel
theorem dX7_box_163 : decode cX7_box 163 = .ok (.aload_n 0, 1) := by decide +kernel
theorem dX7_box_164 : decode cX7_box 164 = .ok (.getfield 94, 3) := by decide +kernel
theorem dX7_box_167 : decode cX7_box 167 = .ok (.iload_n 3, 1) := by decide +kernel
theorem dX7_box_168 : decode cX7_box 168 = .ok (.iastore, 1) := by decide +kernel
theorem dX7_box_169 : decode cX7_box 169 = .ok (.aload_n 0, 1) := by decide +kernel
theorem dX7_box_170 : decode cX7_box 170 = .ok (.getfield 45, 3) := by decide +kernel
theorem dX7_box_173 : decode cX7_box 173 = .ok (.aload_n 0, 1) := by decide +kernel
theorem dX7_box_174 : decode cX7_box 174 = .ok (.getfield 94, 3) := by decide +kernel
theorem dX7_box_177 : decode cX7_box 177 = .ok (.iload 4, 2) := by decide +kernel
theorem dX7_box_179 : decode cX7_box 179 = .ok (.iastore, 1) := by decide +kernel
theorem dX7_box_180 : decode cX7_box 180 = .ok (.aload_n 0, 1) := by decide +kernel
theorem dX7_box_181 : decode cX7_box 181 = .ok (.getfield 48, 3) := by decide +kernel
theorem dX7_box_184 : decode cX7_box 184 = .ok (.aload_n 0, 1) := by decide +kernel
theorem dX7_box_185 : decode cX7_box 185 = .ok (.getfield 94, 3) := by decide +kernel
theorem dX7_box_188 : decode cX7_box 188 = .ok (.iconst 0, 1) := by decide +kernel
theorem dX7_box_189 : decode cX7_box 189 = .ok (.iastore, 1) := by decide +kernel
theorem dX7_box_190 : decode cX7_box 190 = .ok (.aload_n 0, 1) := by decide +kernel
theorem dX7_box_191 : decode cX7_box 191 = .ok (.aload_n 0, 1) := by decide +kernel
theorem dX7_box_192 : decode cX7_box 192 = .ok (.getfield 94, 3) := by decide +kernel
theorem dX7_box_195 : decode cX7_box 195 = .ok (.iload 5, 2) := by decide +kernel
theorem dX7_box_197 : decode cX7_box 197 = .ok (.invokevirtual 139, 3) := by decide +kernel
theorem dX7_box_200 : decode cX7_box 200 = .ok (.aload_n 0, 1) := by decide +kernel
theorem dX7_box_201 : decode cX7_box 201 = .ok (.dup, 1) := by decide +kernel
theorem dX7_box_202 : decode cX7_box 202 = .ok (.getfield 94, 3) := by decide +kernel
theorem dX7_box_205 : decode cX7_box 205 = .ok (.iconst 1, 1) := by decide +kernel
theorem dX7_box_206 : decode cX7_box 206 = .ok (.iadd, 1) := by decide +kernel
theorem dX7_box_207 : decode cX7_box 207 = .ok (.putfield 94, 3) := by decide +kernel
theorem dX7_box_210 : decode cX7_box 210 = .ok (.aload_n 0, 1) := by decide +kernel
theorem dX7_box_211 : decode cX7_box 211 = .ok (.getfield 94, 3) := by decide +kernel
theorem dX7_box_214 : decode cX7_box 214 = .ok (.iconst 1, 1) := by decide +kernel
theorem dX7_box_215 : decode cX7_box 215 = .ok (.isub, 1) := by decide +kernel
theorem dX7_box_216 : decode cX7_box 216 = .ok (.ireturn, 1) := by decide +kernel
def pX7_box_b137  (x2 : Int32) (x3 : Int32) (x4 : Int32) (x5 : Int32) (y0 : Int32) (v : St) : Option (Int32 × St) := if ((sS v 0 y0).2 0) ≤ 0 then (if ((sS v 0 y0).2 4 < 0 ∨ 60 ≤ ((sS v 0 y0).2 4).toNatClampNeg) then none else (if ((sA (sS v 0 y0) 6 (upd ((sS v 0 y0).1 6) ((sS v 0 y0).2 4).toNatClampNeg x2)).2 4 < 0 ∨ 60 ≤ ((sA (sS v 0 y0) 6 (upd ((sS v 0 y0).1 6) ((sS v 0 y0).2 4).toNatClampNeg x2)).2 4).toNatClampNeg) then none else (if ((sA (sA (sS v 0 y0) 6 (upd ((sS v 0 y0).1 6) ((sS v 0 y0).2 4).toNatClampNeg x2)) 7 (upd ((sA (sS v 0 y0) 6 (upd ((sS v 0 y0).1 6) ((sS v 0 y0).2 4).toNatClampNeg x2)).1 7) ((sA (sS v 0 y0) 6 (upd ((sS v 0 y0).1 6) ((sS v 0 y0).2 4).toNatClampNeg x2)).2 4).toNatClampNeg x3)).2 4 < 0 ∨ 60 ≤ ((sA (sA (sS v 0 y0) 6 (upd ((sS v 0 y0).1 6) ((sS v 0 y0).2 4).toNatClampNeg x2)) 7 (upd ((sA (sS v 0 y0) 6 (upd ((sS v 0 y0).1 6) ((sS v 0 y0).2 4).toNatClampNeg x2)).1 7) ((sA (sS v 0 y0) 6 (upd ((sS v 0 y0).1 6) ((sS v 0 y0).2 4).toNatClampNeg x2)).2 4).toNatClampNeg x3)).2 4).toNatClampNeg) then none else (if ((sA (sA (sA (sS v 0 y0) 6 (upd ((sS v 0 y0).1 6) ((sS v 0 y0).2 4).toNatClampNeg x2)) 7 (upd ((sA (sS v 0 y0) 6 (upd ((sS v 0 y0).1 6) ((sS v 0 y0).2 4).toNatClampNeg x2)).1 7) ((sA (sS v 0 y0) 6 (upd ((sS v 0 y0).1 6) ((sS v 0 y0).2 4).toNatClampNeg x2)).2 4).toNatClampNeg x3)) 8 (upd ((sA (sA (sS v 0 y0) 6 (upd ((sS v 0 y0).1 6) ((sS v 0 y0).2 4).toNatClampNeg x2)) 7 (upd ((sA (sS v 0 y0) 6 (upd ((sS v 0 y0).1 6) ((sS v 0 y0).2 4).toNatClampNeg x2)).1 7) ((sA (sS v 0 y0) 6 (upd ((sS v 0 y0).1 6) ((sS v 0 y0).2 4).toNatClampNeg x2)).2 4).toNatClampNeg x3)).1 8) ((sA (sA (sS v 0 y0) 6 (upd ((sS v 0 y0).1 6) ((sS v 0 y0).2 4).toNatClampNeg x2)) 7 (upd ((sA (sS v 0 y0) 6 (upd ((sS v 0 y0).1 6) ((sS v 0 y0).2 4).toNatClampNeg x2)).1 7) ((sA (sS v 0 y0) 6 (upd ((sS v 0 y0).1 6) ((sS v 0 y0).2 4).toNatClampNeg x2)).2 4).toNatClampNeg x3)).2 4).toNatClampNeg x4)).2 4 < 0 ∨ 60 ≤ ((sA (sA (sA (sS v 0 y0) 6 (upd ((sS v 0 y0).1 6) ((sS v 0 y0).2 4).toNatClampNeg x2)) 7 (upd ((sA (sS v 0 y0) 6 (upd ((sS v 0 y0).1 6) ((sS v 0 y0).2 4).toNatClampNeg x2)).1 7) ((sA (sS v 0 y0) 6 (upd ((sS v 0 y0).1 6) ((sS v 0 y0).2 4).toNatClampNeg x2)).2 4).toNatClampNeg x3)) 8 (upd ((sA (sA (sS v 0 y0) 6 (upd ((sS v 0 y0).1 6) ((sS v 0 y0).2 4).toNatClampNeg x2)) 7 (upd ((sA (sS v 0 y0) 6 (upd ((sS v 0 y0).1 6) ((sS v 0 y0).2 4).toNatClampNeg x2)).1 7) ((sA (sS v 0 y0) 6 (upd ((sS v 0 y0).1 6) ((sS v 0 y0).2 4).toNatClampNeg x2)).2 4).toNatClampNeg x3)).1 8) ((sA (sA (sS v 0 y0) 6 (upd ((sS v 0 y0).1 6) ((sS v 0 y0).2 4).toNatClampNeg x2)) 7 (upd ((sA (sS v 0 y0) 6 (upd ((sS v 0 y0).1 6) ((sS v 0 y0).2 4).toNatClampNeg x2)).1 7) ((sA (sS v 0 y0) 6 (upd ((sS v 0 y0).1 6) ((sS v 0 y0).2 4).toNatClampNeg x2)).2 4).toNatClampNeg x3)).2 4).toNatClampNeg x4)).2 4).toNatClampNeg) then none else (bnd (pX7_comesTo ((sA (sA (sA (sA (sS v 0 y0) 6 (upd ((sS v 0 y0).1 6) ((sS v 0 y0).2 4).toNatClampNeg x2)) 7 (upd ((sA (sS v 0 y0) 6 (upd ((sS v 0 y0).1 6) ((sS v 0 y0).2 4).toNatClampNeg x2)).1 7) ((sA (sS v 0 y0) 6 (upd ((sS v 0 y0).1 6) ((sS v 0 y0).2 4).toNatClampNeg x2)).2 4).toNatClampNeg x3)) 8 (upd ((sA (sA (sS v 0 y0) 6 (upd ((sS v 0 y0).1 6) ((sS v 0 y0).2 4).toNatClampNeg x2)) 7 (upd ((sA (sS v 0 y0) 6 (upd ((sS v 0 y0).1 6) ((sS v 0 y0).2 4).toNatClampNeg x2)).1 7) ((sA (sS v 0 y0) 6 (upd ((sS v 0 y0).1 6) ((sS v 0 y0).2 4).toNatClampNeg x2)).2 4).toNatClampNeg x3)).1 8) ((sA (sA (sS v 0 y0) 6 (upd ((sS v 0 y0).1 6) ((sS v 0 y0).2 4).toNatClampNeg x2)) 7 (upd ((sA (sS v 0 y0) 6 (upd ((sS v 0 y0).1 6) ((sS v 0 y0).2 4).toNatClampNeg x2)).1 7) ((sA (sS v 0 y0) 6 (upd ((sS v 0 y0).1 6) ((sS v 0 y0).2 4).toNatClampNeg x2)).2 4).toNatClampNeg x3)).2 4).toNatClampNeg x4)) 9 (upd ((sA (sA (sA (sS v 0 y0) 6 (upd ((sS v 0 y0).1 6) ((sS v 0 y0).2 4).toNatClampNeg x2)) 7 (upd ((sA (sS v 0 y0) 6 (upd ((sS v 0 y0).1 6) ((sS v 0 y0).2 4).toNatClampNeg x2)).1 7) ((sA (sS v 0 y0) 6 (upd ((sS v 0 y0).1 6) ((sS v 0 y0).2 4).toNatClampNeg x2)).2 4).toNatClampNeg x3)) 8 (upd ((sA (sA (sS v 0 y0) 6 (upd ((sS v 0 y0).1 6) ((sS v 0 y0).2 4).toNatClampNeg x2)) 7 (upd ((sA (sS v 0 y0) 6 (upd ((sS v 0 y0).1 6) ((sS v 0 y0).2 4).toNatClampNeg x2)).1 7) ((sA (sS v 0 y0) 6 (upd ((sS v 0 y0).1 6) ((sS v 0 y0).2 4).toNatClampNeg x2)).2 4).toNatClampNeg x3)).1 8) ((sA (sA (sS v 0 y0) 6 (upd ((sS v 0 y0).1 6) ((sS v 0 y0).2 4).toNatClampNeg x2)) 7 (upd ((sA (sS v 0 y0) 6 (upd ((sS v 0 y0).1 6) ((sS v 0 y0).2 4).toNatClampNeg x2)).1 7) ((sA (sS v 0 y0) 6 (upd ((sS v 0 y0).1 6) ((sS v 0 y0).2 4).toNatClampNeg x2)).2 4).toNatClampNeg x3)).2 4).toNatClampNeg x4)).1 9) ((sA (sA (sA (sS v 0 y0) 6 (upd ((sS v 0 y0).1 6) ((sS v 0 y0).2 4).toNatClampNeg x2)) 7 (upd ((sA (sS v 0 y0) 6 (upd ((sS v 0 y0).1 6) ((sS v 0 y0).2 4).toNatClampNeg x2)).1 7) ((sA (sS v 0 y0) 6 (upd ((sS v 0 y0).1 6) ((sS v 0 y0).2 4).toNatClampNeg x2)).2 4).toNatClampNeg x3)) 8 (upd ((sA (sA (sS v 0 y0) 6 (upd ((sS v 0 y0).1 6) ((sS v 0 y0).2 4).toNatClampNeg x2)) 7 (upd ((sA (sS v 0 y0) 6 (upd ((sS v 0 y0).1 6) ((sS v 0 y0).2 4).toNatClampNeg x2)).1 7) ((sA (sS v 0 y0) 6 (upd ((sS v 0 y0).1 6) ((sS v 0 y0).2 4).toNatClampNeg x2)).2 4).toNatClampNeg x3)).1 8) ((sA (sA (sS v 0 y0) 6 (upd ((sS v 0 y0).1 6) ((sS v 0 y0).2 4).toNatClampNeg x2)) 7 (upd ((sA (sS v 0 y0) 6 (upd ((sS v 0 y0).1 6) ((sS v 0 y0).2 4).toNatClampNeg x2)).1 7) ((sA (sS v 0 y0) 6 (upd ((sS v 0 y0).1 6) ((sS v 0 y0).2 4).toNatClampNeg x2)).2 4).toNatClampNeg x3)).2 4).toNatClampNeg x4)).2 4).toNatClampNeg 0)).2 4) x5 (sA (sA (sA (sA (sS v 0 y0) 6 (upd ((sS v 0 y0).1 6) ((sS v 0 y0).2 4).toNatClampNeg x2)) 7 (upd ((sA (sS v 0 y0) 6 (upd ((sS v 0 y0).1 6) ((sS v 0 y0).2 4).toNatClampNeg x2)).1 7) ((sA (sS v 0 y0) 6 (upd ((sS v 0 y0).1 6) ((sS v 0 y0).2 4).toNatClampNeg x2)).2 4).toNatClampNeg x3)) 8 (upd ((sA (sA (sS v 0 y0) 6 (upd ((sS v 0 y0).1 6) ((sS v 0 y0).2 4).toNatClampNeg x2)) 7 (upd ((sA (sS v 0 y0) 6 (upd ((sS v 0 y0).1 6) ((sS v 0 y0).2 4).toNatClampNeg x2)).1 7) ((sA (sS v 0 y0) 6 (upd ((sS v 0 y0).1 6) ((sS v 0 y0).2 4).toNatClampNeg x2)).2 4).toNatClampNeg x3)).1 8) ((sA (sA (sS v 0 y0) 6 (upd ((sS v 0 y0).1 6) ((sS v 0 y0).2 4).toNatClampNeg x2)) 7 (upd ((sA (sS v 0 y0) 6 (upd ((sS v 0 y0).1 6) ((sS v 0 y0).2 4).toNatClampNeg x2)).1 7) ((sA (sS v 0 y0) 6 (upd ((sS v 0 y0).1 6) ((sS v 0 y0).2 4).toNatClampNeg x2)).2 4).toNatClampNeg x3)).2 4).toNatClampNeg x4)) 9 (upd ((sA (sA (sA (sS v 0 y0) 6 (upd ((sS v 0 y0).1 6) ((sS v 0 y0).2 4).toNatClampNeg x2)) 7 (upd ((sA (sS v 0 y0) 6 (upd ((sS v 0 y0).1 6) ((sS v 0 y0).2 4).toNatClampNeg x2)).1 7) ((sA (sS v 0 y0) 6 (upd ((sS v 0 y0).1 6) ((sS v 0 y0).2 4).toNatClampNeg x2)).2 4).toNatClampNeg x3)) 8 (upd ((sA (sA (sS v 0 y0) 6 (upd ((sS v 0 y0).1 6) ((sS v 0 y0).2 4).toNatClampNeg x2)) 7 (upd ((sA (sS v 0 y0) 6 (upd ((sS v 0 y0).1 6) ((sS v 0 y0).2 4).toNatClampNeg x2)).1 7) ((sA (sS v 0 y0) 6 (upd ((sS v 0 y0).1 6) ((sS v 0 y0).2 4).toNatClampNeg x2)).2 4).toNatClampNeg x3)).1 8) ((sA (sA (sS v 0 y0) 6 (upd ((sS v 0 y0).1 6) ((sS v 0 y0).2 4).toNatClampNeg x2)) 7 (upd ((sA (sS v 0 y0) 6 (upd ((sS v 0 y0).1 6) ((sS v 0 y0).2 4).toNatClampNeg x2)).1 7) ((sA (sS v 0 y0) 6 (upd ((sS v 0 y0).1 6) ((sS v 0 y0).2 4).toNatClampNeg x2)).2 4).toNatClampNeg x3)).2 4).toNatClampNeg x4)).1 9) ((sA (sA (sA (sS v 0 y0) 6 (upd ((sS v 0 y0).1 6) ((sS v 0 y0).2 4).toNatClampNeg x2)) 7 (upd ((sA (sS v 0 y0) 6 (upd ((sS v 0 y0).1 6) ((sS v 0 y0).2 4).toNatClampNeg x2)).1 7) ((sA (sS v 0 y0) 6 (upd ((sS v 0 y0).1 6) ((sS v 0 y0).2 4).toNatClampNeg x2)).2 4).toNatClampNeg x3)) 8 (upd ((sA (sA (sS v 0 y0) 6 (upd ((sS v 0 y0).1 6) ((sS v 0 y0).2 4).toNatClampNeg x2)) 7 (upd ((sA (sS v 0 y0) 6 (upd ((sS v 0 y0).1 6) ((sS v 0 y0).2 4).toNatClampNeg x2)).1 7) ((sA (sS v 0 y0) 6 (upd ((sS v 0 y0).1 6) ((sS v 0 y0).2 4).toNatClampNeg x2)).2 4).toNatClampNeg x3)).1 8) ((sA (sA (sS v 0 y0) 6 (upd ((sS v 0 y0).1 6) ((sS v 0 y0).2 4).toNatClampNeg x2)) 7 (upd ((sA (sS v 0 y0) 6 (upd ((sS v 0 y0).1 6) ((sS v 0 y0).2 4).toNatClampNeg x2)).1 7) ((sA (sS v 0 y0) 6 (upd ((sS v 0 y0).1 6) ((sS v 0 y0).2 4).toNatClampNeg x2)).2 4).toNatClampNeg x3)).2 4).toNatClampNeg x4)).2 4).toNatClampNeg 0))) (fun r12 w13 => some (((sS w13 4 ((w13.2 4) + 1)).2 4) - 1, sS w13 4 ((w13.2 4) + 1)))))))) else (some (0, sS v 0 y0))
def pX7_box_b132  (x2 : Int32) (x3 : Int32) (x4 : Int32) (x5 : Int32) (v : St) : Option (Int32 × St) := pX7_box_b137 x2 x3 x4 x5 3 v
def pX7_box_b113  (x2 : Int32) (x3 : Int32) (x4 : Int32) (x5 : Int32) (x7 : Int32) (v : St) : Option (Int32 × St) := if x7 = 0 then (bnd (pX7_stackMay (v.2 4) x5 v) (fun r15 w16 => if r15 = 0 then (pX7_box_b132 x2 x3 x4 x5 w16) else (pX7_box_b137 x2 x3 x4 x5 0 w16))) else (pX7_box_b132 x2 x3 x4 x5 v)
def pX7_box_b96  (x1 : Int32) (x2 : Int32) (x3 : Int32) (x4 : Int32) (x5 : Int32) (y0 : Int32) (v : St) : Option (Int32 × St) := if y0 = 0 then (if (v.2 4 < 0 ∨ 60 ≤ (v.2 4).toNatClampNeg) then none else (pX7_box_b113 x2 x3 x4 x5 y0 (sA v 5 (upd (v.1 5) (v.2 4).toNatClampNeg x1)))) else (pX7_box_b113 x2 x3 x4 x5 y0 v)
def pX7_box_b70  (x1 : Int32) (x2 : Int32) (x3 : Int32) (x4 : Int32) (x5 : Int32) (y0 : Int32) (v : St) : Option (Int32 × St) := if ((sS v 0 y0).2 0) ≤ 0 then (if ((sS v 0 y0).2 4) = 60 then (pX7_box_b96 x1 x2 x3 x4 x5 1 (sS v 0 y0)) else (pX7_box_b96 x1 x2 x3 x4 x5 0 (sS v 0 y0))) else (some (0, sS v 0 y0))
def pX7_box_b56  (x1 : Int32) (x2 : Int32) (x3 : Int32) (x4 : Int32) (x5 : Int32) (v : St) : Option (Int32 × St) := pX7_box_b70 x1 x2 x3 x4 x5 1 v
def pX7_box_b35  (x1 : Int32) (x2 : Int32) (x3 : Int32) (x4 : Int32) (x5 : Int32) (y0 : Int32) (v : St) : Option (Int32 × St) := if (pX7_in x3 0 9) = 0 then (pX7_box_b56 x1 x2 x3 x4 x5 v) else (if (pX7_isStack x5) = 0 then (pX7_box_b56 x1 x2 x3 x4 x5 v) else (if y0 = 0 then (pX7_box_b70 x1 x2 x3 x4 x5 2 v) else (pX7_box_b70 x1 x2 x3 x4 x5 0 v)))
def pX7_box_b34  (x1 : Int32) (x2 : Int32) (x3 : Int32) (x4 : Int32) (x5 : Int32) (v : St) : Option (Int32 × St) := pX7_box_b35 x1 x2 x3 x4 x5 0 v
def pX7_box (a1 : Int32) (a2 : Int32) (a3 : Int32) (a4 : Int32) (a5 : Int32) (u : St) : Option (Int32 × St) := if (pX7_in a1 1 40) = 0 then (pX7_box_b34 a1 a2 a3 a4 a5 u) else (if (pX7_in a2 1 40) = 0 then (pX7_box_b34 a1 a2 a3 a4 a5 u) else (if (pX7_in a4 0 4) = 0 then (pX7_box_b34 a1 a2 a3 a4 a5 u) else (pX7_box_b35 a1 a2 a3 a4 a5 1 u)))
set_option maxHeartbeats 4000000 in
set_option maxRecDepth 20000 in
theorem kX7_box {l : Launch} {D : va_G} {Y : Nat → ClassId} {q : Nat → Nat} {a1 a2 a3 a4 a5 : Int32} {u u1 : St} {r : Int32} (hX : pX7_box a1 a2 a3 a4 a5 u = some (r, u1)) : CMi l yX7_box cX7_box 8 (some .int) 2 44 D Y (wM Y q u) (wM Y q u1) [.ref (q 0), .int a1, .int a2, .int a3, .int a4, .int a5] r := by
  refine cm_ofi (by decide) (Nat.le_of_ble_eq_true rfl) rfl (fun p e s m args below meth c A F hr hlk => ?_)
  show GW p l e { frames := 2, cells := 0, slots := 0, locals := 44 } s m args below meth c D A 8 0 0 (MQ below (QI D (wM Y q u1) r A) args s 0 0 A) (wM Y q u) 0 [(0, .ref (q 0)), (1, .int a1), (2, .int a2), (3, .int a3), (4, .int a4), (5, .int a5)] []
  have b137 : ∀  (x2 : Int32) (x3 : Int32) (x4 : Int32) (x5 : Int32) (y0 : Int32) (v : St), pX7_box_b137  x2 x3 x4 x5 y0 v = some (r, u1) → GW p l e { frames := 2, cells := 0, slots := 0, locals := 44 } s m args below meth c D A 8 0 0 (MQ below (QI D (wM Y q u1) r A) args s 0 0 A) (wM Y q v) 137 [(0, .ref (q 0)), (2, .int x2), (3, .int x3), (4, .int x4), (5, .int x5)] [.int y0, .ref (q 0)] := by
    intro  x2 x3 x4 x5 y0 v hX
    have hX : (if ((sS v 0 y0).2 0) ≤ 0 then (if ((sS v 0 y0).2 4 < 0 ∨ 60 ≤ ((sS v 0 y0).2 4).toNatClampNeg) then none else (if ((sA (sS v 0 y0) 6 (upd ((sS v 0 y0).1 6) ((sS v 0 y0).2 4).toNatClampNeg x2)).2 4 < 0 ∨ 60 ≤ ((sA (sS v 0 y0) 6 (upd ((sS v 0 y0).1 6) ((sS v 0 y0).2 4).toNatClampNeg x2)).2 4).toNatClampNeg) then none else (if ((sA (sA (sS v 0 y0) 6 (upd ((sS v 0 y0).1 6) ((sS v 0 y0).2 4).toNatClampNeg x2)) 7 (upd ((sA (sS v 0 y0) 6 (upd ((sS v 0 y0).1 6) ((sS v 0 y0).2 4).toNatClampNeg x2)).1 7) ((sA (sS v 0 y0) 6 (upd ((sS v 0 y0).1 6) ((sS v 0 y0).2 4).toNatClampNeg x2)).2 4).toNatClampNeg x3)).2 4 < 0 ∨ 60 ≤ ((sA (sA (sS v 0 y0) 6 (upd ((sS v 0 y0).1 6) ((sS v 0 y0).2 4).toNatClampNeg x2)) 7 (upd ((sA (sS v 0 y0) 6 (upd ((sS v 0 y0).1 6) ((sS v 0 y0).2 4).toNatClampNeg x2)).1 7) ((sA (sS v 0 y0) 6 (upd ((sS v 0 y0).1 6) ((sS v 0 y0).2 4).toNatClampNeg x2)).2 4).toNatClampNeg x3)).2 4).toNatClampNeg) then none else (if ((sA (sA (sA (sS v 0 y0) 6 (upd ((sS v 0 y0).1 6) ((sS v 0 y0).2 4).toNatClampNeg x2)) 7 (upd ((sA (sS v 0 y0) 6 (upd ((sS v 0 y0).1 6) ((sS v 0 y0).2 4).toNatClampNeg x2)).1 7) ((sA (sS v 0 y0) 6 (upd ((sS v 0 y0).1 6) ((sS v 0 y0).2 4).toNatClampNeg x2)).2 4).toNatClampNeg x3)) 8 (upd ((sA (sA (sS v 0 y0) 6 (upd ((sS v 0 y0).1 6) ((sS v 0 y0).2 4).toNatClampNeg x2)) 7 (upd ((sA (sS v 0 y0) 6 (upd ((sS v 0 y0).1 6) ((sS v 0 y0).2 4).toNatClampNeg x2)).1 7) ((sA (sS v 0 y0) 6 (upd ((sS v 0 y0).1 6) ((sS v 0 y0).2 4).toNatClampNeg x2)).2 4).toNatClampNeg x3)).1 8) ((sA (sA (sS v 0 y0) 6 (upd ((sS v 0 y0).1 6) ((sS v 0 y0).2 4).toNatClampNeg x2)) 7 (upd ((sA (sS v 0 y0) 6 (upd ((sS v 0 y0).1 6) ((sS v 0 y0).2 4).toNatClampNeg x2)).1 7) ((sA (sS v 0 y0) 6 (upd ((sS v 0 y0).1 6) ((sS v 0 y0).2 4).toNatClampNeg x2)).2 4).toNatClampNeg x3)).2 4).toNatClampNeg x4)).2 4 < 0 ∨ 60 ≤ ((sA (sA (sA (sS v 0 y0) 6 (upd ((sS v 0 y0).1 6) ((sS v 0 y0).2 4).toNatClampNeg x2)) 7 (upd ((sA (sS v 0 y0) 6 (upd ((sS v 0 y0).1 6) ((sS v 0 y0).2 4).toNatClampNeg x2)).1 7) ((sA (sS v 0 y0) 6 (upd ((sS v 0 y0).1 6) ((sS v 0 y0).2 4).toNatClampNeg x2)).2 4).toNatClampNeg x3)) 8 (upd ((sA (sA (sS v 0 y0) 6 (upd ((sS v 0 y0).1 6) ((sS v 0 y0).2 4).toNatClampNeg x2)) 7 (upd ((sA (sS v 0 y0) 6 (upd ((sS v 0 y0).1 6) ((sS v 0 y0).2 4).toNatClampNeg x2)).1 7) ((sA (sS v 0 y0) 6 (upd ((sS v 0 y0).1 6) ((sS v 0 y0).2 4).toNatClampNeg x2)).2 4).toNatClampNeg x3)).1 8) ((sA (sA (sS v 0 y0) 6 (upd ((sS v 0 y0).1 6) ((sS v 0 y0).2 4).toNatClampNeg x2)) 7 (upd ((sA (sS v 0 y0) 6 (upd ((sS v 0 y0).1 6) ((sS v 0 y0).2 4).toNatClampNeg x2)).1 7) ((sA (sS v 0 y0) 6 (upd ((sS v 0 y0).1 6) ((sS v 0 y0).2 4).toNatClampNeg x2)).2 4).toNatClampNeg x3)).2 4).toNatClampNeg x4)).2 4).toNatClampNeg) then none else (bnd (pX7_comesTo ((sA (sA (sA (sA (sS v 0 y0) 6 (upd ((sS v 0 y0).1 6) ((sS v 0 y0).2 4).toNatClampNeg x2)) 7 (upd ((sA (sS v 0 y0) 6 (upd ((sS v 0 y0).1 6) ((sS v 0 y0).2 4).toNatClampNeg x2)).1 7) ((sA (sS v 0 y0) 6 (upd ((sS v 0 y0).1 6) ((sS v 0 y0).2 4).toNatClampNeg x2)).2 4).toNatClampNeg x3)) 8 (upd ((sA (sA (sS v 0 y0) 6 (upd ((sS v 0 y0).1 6) ((sS v 0 y0).2 4).toNatClampNeg x2)) 7 (upd ((sA (sS v 0 y0) 6 (upd ((sS v 0 y0).1 6) ((sS v 0 y0).2 4).toNatClampNeg x2)).1 7) ((sA (sS v 0 y0) 6 (upd ((sS v 0 y0).1 6) ((sS v 0 y0).2 4).toNatClampNeg x2)).2 4).toNatClampNeg x3)).1 8) ((sA (sA (sS v 0 y0) 6 (upd ((sS v 0 y0).1 6) ((sS v 0 y0).2 4).toNatClampNeg x2)) 7 (upd ((sA (sS v 0 y0) 6 (upd ((sS v 0 y0).1 6) ((sS v 0 y0).2 4).toNatClampNeg x2)).1 7) ((sA (sS v 0 y0) 6 (upd ((sS v 0 y0).1 6) ((sS v 0 y0).2 4).toNatClampNeg x2)).2 4).toNatClampNeg x3)).2 4).toNatClampNeg x4)) 9 (upd ((sA (sA (sA (sS v 0 y0) 6 (upd ((sS v 0 y0).1 6) ((sS v 0 y0).2 4).toNatClampNeg x2)) 7 (upd ((sA (sS v 0 y0) 6 (upd ((sS v 0 y0).1 6) ((sS v 0 y0).2 4).toNatClampNeg x2)).1 7) ((sA (sS v 0 y0) 6 (upd ((sS v 0 y0).1 6) ((sS v 0 y0).2 4).toNatClampNeg x2)).2 4).toNatClampNeg x3)) 8 (upd ((sA (sA (sS v 0 y0) 6 (upd ((sS v 0 y0).1 6) ((sS v 0 y0).2 4).toNatClampNeg x2)) 7 (upd ((sA (sS v 0 y0) 6 (upd ((sS v 0 y0).1 6) ((sS v 0 y0).2 4).toNatClampNeg x2)).1 7) ((sA (sS v 0 y0) 6 (upd ((sS v 0 y0).1 6) ((sS v 0 y0).2 4).toNatClampNeg x2)).2 4).toNatClampNeg x3)).1 8) ((sA (sA (sS v 0 y0) 6 (upd ((sS v 0 y0).1 6) ((sS v 0 y0).2 4).toNatClampNeg x2)) 7 (upd ((sA (sS v 0 y0) 6 (upd ((sS v 0 y0).1 6) ((sS v 0 y0).2 4).toNatClampNeg x2)).1 7) ((sA (sS v 0 y0) 6 (upd ((sS v 0 y0).1 6) ((sS v 0 y0).2 4).toNatClampNeg x2)).2 4).toNatClampNeg x3)).2 4).toNatClampNeg x4)).1 9) ((sA (sA (sA (sS v 0 y0) 6 (upd ((sS v 0 y0).1 6) ((sS v 0 y0).2 4).toNatClampNeg x2)) 7 (upd ((sA (sS v 0 y0) 6 (upd ((sS v 0 y0).1 6) ((sS v 0 y0).2 4).toNatClampNeg x2)).1 7) ((sA (sS v 0 y0) 6 (upd ((sS v 0 y0).1 6) ((sS v 0 y0).2 4).toNatClampNeg x2)).2 4).toNatClampNeg x3)) 8 (upd ((sA (sA (sS v 0 y0) 6 (upd ((sS v 0 y0).1 6) ((sS v 0 y0).2 4).toNatClampNeg x2)) 7 (upd ((sA (sS v 0 y0) 6 (upd ((sS v 0 y0).1 6) ((sS v 0 y0).2 4).toNatClampNeg x2)).1 7) ((sA (sS v 0 y0) 6 (upd ((sS v 0 y0).1 6) ((sS v 0 y0).2 4).toNatClampNeg x2)).2 4).toNatClampNeg x3)).1 8) ((sA (sA (sS v 0 y0) 6 (upd ((sS v 0 y0).1 6) ((sS v 0 y0).2 4).toNatClampNeg x2)) 7 (upd ((sA (sS v 0 y0) 6 (upd ((sS v 0 y0).1 6) ((sS v 0 y0).2 4).toNatClampNeg x2)).1 7) ((sA (sS v 0 y0) 6 (upd ((sS v 0 y0).1 6) ((sS v 0 y0).2 4).toNatClampNeg x2)).2 4).toNatClampNeg x3)).2 4).toNatClampNeg x4)).2 4).toNatClampNeg 0)).2 4) x5 (sA (sA (sA (sA (sS v 0 y0) 6 (upd ((sS v 0 y0).1 6) ((sS v 0 y0).2 4).toNatClampNeg x2)) 7 (upd ((sA (sS v 0 y0) 6 (upd ((sS v 0 y0).1 6) ((sS v 0 y0).2 4).toNatClampNeg x2)).1 7) ((sA (sS v 0 y0) 6 (upd ((sS v 0 y0).1 6) ((sS v 0 y0).2 4).toNatClampNeg x2)).2 4).toNatClampNeg x3)) 8 (upd ((sA (sA (sS v 0 y0) 6 (upd ((sS v 0 y0).1 6) ((sS v 0 y0).2 4).toNatClampNeg x2)) 7 (upd ((sA (sS v 0 y0) 6 (upd ((sS v 0 y0).1 6) ((sS v 0 y0).2 4).toNatClampNeg x2)).1 7) ((sA (sS v 0 y0) 6 (upd ((sS v 0 y0).1 6) ((sS v 0 y0).2 4).toNatClampNeg x2)).2 4).toNatClampNeg x3)).1 8) ((sA (sA (sS v 0 y0) 6 (upd ((sS v 0 y0).1 6) ((sS v 0 y0).2 4).toNatClampNeg x2)) 7 (upd ((sA (sS v 0 y0) 6 (upd ((sS v 0 y0).1 6) ((sS v 0 y0).2 4).toNatClampNeg x2)).1 7) ((sA (sS v 0 y0) 6 (upd ((sS v 0 y0).1 6) ((sS v 0 y0).2 4).toNatClampNeg x2)).2 4).toNatClampNeg x3)).2 4).toNatClampNeg x4)) 9 (upd ((sA (sA (sA (sS v 0 y0) 6 (upd ((sS v 0 y0).1 6) ((sS v 0 y0).2 4).toNatClampNeg x2)) 7 (upd ((sA (sS v 0 y0) 6 (upd ((sS v 0 y0).1 6) ((sS v 0 y0).2 4).toNatClampNeg x2)).1 7) ((sA (sS v 0 y0) 6 (upd ((sS v 0 y0).1 6) ((sS v 0 y0).2 4).toNatClampNeg x2)).2 4).toNatClampNeg x3)) 8 (upd ((sA (sA (sS v 0 y0) 6 (upd ((sS v 0 y0).1 6) ((sS v 0 y0).2 4).toNatClampNeg x2)) 7 (upd ((sA (sS v 0 y0) 6 (upd ((sS v 0 y0).1 6) ((sS v 0 y0).2 4).toNatClampNeg x2)).1 7) ((sA (sS v 0 y0) 6 (upd ((sS v 0 y0).1 6) ((sS v 0 y0).2 4).toNatClampNeg x2)).2 4).toNatClampNeg x3)).1 8) ((sA (sA (sS v 0 y0) 6 (upd ((sS v 0 y0).1 6) ((sS v 0 y0).2 4).toNatClampNeg x2)) 7 (upd ((sA (sS v 0 y0) 6 (upd ((sS v 0 y0).1 6) ((sS v 0 y0).2 4).toNatClampNeg x2)).1 7) ((sA (sS v 0 y0) 6 (upd ((sS v 0 y0).1 6) ((sS v 0 y0).2 4).toNatClampNeg x2)).2 4).toNatClampNeg x3)).2 4).toNatClampNeg x4)).1 9) ((sA (sA (sA (sS v 0 y0) 6 (upd ((sS v 0 y0).1 6) ((sS v 0 y0).2 4).toNatClampNeg x2)) 7 (upd ((sA (sS v 0 y0) 6 (upd ((sS v 0 y0).1 6) ((sS v 0 y0).2 4).toNatClampNeg x2)).1 7) ((sA (sS v 0 y0) 6 (upd ((sS v 0 y0).1 6) ((sS v 0 y0).2 4).toNatClampNeg x2)).2 4).toNatClampNeg x3)) 8 (upd ((sA (sA (sS v 0 y0) 6 (upd ((sS v 0 y0).1 6) ((sS v 0 y0).2 4).toNatClampNeg x2)) 7 (upd ((sA (sS v 0 y0) 6 (upd ((sS v 0 y0).1 6) ((sS v 0 y0).2 4).toNatClampNeg x2)).1 7) ((sA (sS v 0 y0) 6 (upd ((sS v 0 y0).1 6) ((sS v 0 y0).2 4).toNatClampNeg x2)).2 4).toNatClampNeg x3)).1 8) ((sA (sA (sS v 0 y0) 6 (upd ((sS v 0 y0).1 6) ((sS v 0 y0).2 4).toNatClampNeg x2)) 7 (upd ((sA (sS v 0 y0) 6 (upd ((sS v 0 y0).1 6) ((sS v 0 y0).2 4).toNatClampNeg x2)).1 7) ((sA (sS v 0 y0) 6 (upd ((sS v 0 y0).1 6) ((sS v 0 y0).2 4).toNatClampNeg x2)).2 4).toNatClampNeg x3)).2 4).toNatClampNeg x4)).2 4).toNatClampNeg 0))) (fun r12 w13 => some (((sS w13 4 ((w13.2 4) + 1)).2 4) - 1, sS w13 4 ((w13.2 4) + 1)))))))) else (some (0, sS v 0 y0))) = some (r, u1) := hX
    refine P_X7_87 F dX7_box_137 ?_
    refine g_aload_n F dX7_box_140 0 rfl rfl ?_
    refine G_X7_87 F dX7_box_141 ?_
    refine g_if_le (tgt := 149) F dX7_box_144 (by decide) (fun c7 => ?_) (fun c7 => ?_)
    · have hX := if_t hX c7
      refine g_aload_n F dX7_box_149 0 rfl rfl ?_
      refine G_X7_39 F dX7_box_150 ?_
      refine g_aload_n F dX7_box_153 0 rfl rfl ?_
      refine G_X7_94 F dX7_box_154 ?_
      refine g_iload_n F dX7_box_157 1 rfl rfl ?_
      obtain ⟨hI8, hX⟩ := inb hX
      refine AS_6 F hI8 dX7_box_158 ?_
      refine g_aload_n F dX7_box_159 0 rfl rfl ?_
      refine G_X7_42 F dX7_box_160 ?_
      refine g_aload_n F dX7_box_163 0 rfl rfl ?_
      refine G_X7_94 F dX7_box_164 ?_
      refine g_iload_n F dX7_box_167 2 rfl rfl ?_
      obtain ⟨hI9, hX⟩ := inb hX
      refine AS_7 F hI9 dX7_box_168 ?_
      refine g_aload_n F dX7_box_169 0 rfl rfl ?_
      refine G_X7_45 F dX7_box_170 ?_
      refine g_aload_n F dX7_box_173 0 rfl rfl ?_
      refine G_X7_94 F dX7_box_174 ?_
      refine g_iload F dX7_box_177 3 rfl ?_
      obtain ⟨hI10, hX⟩ := inb hX
      refine AS_8 F hI10 dX7_box_179 ?_
      refine g_aload_n F dX7_box_180 0 rfl rfl ?_
      refine G_X7_48 F dX7_box_181 ?_
      refine g_aload_n F dX7_box_184 0 rfl rfl ?_
      refine G_X7_94 F dX7_box_185 ?_
      refine g_iconst (v := 0) F dX7_box_188 (by decide) ?_
      obtain ⟨hI11, hX⟩ := inb hX
      refine AS_9 F hI11 dX7_box_189 ?_
      refine g_aload_n F dX7_box_190 0 rfl rfl ?_
      refine g_aload_n F dX7_box_191 0 rfl rfl ?_
      refine G_X7_94 F dX7_box_192 ?_
      refine g_iload F dX7_box_195 4 rfl ?_
      obtain ⟨r12, w13, hc14, hX⟩ := bnd_s hX
      refine callX7_comesTo F hc14 ml_X7_139 ⟨Nat.le_of_ble_eq_true rfl, Nat.le_of_ble_eq_true rfl⟩ (Nat.le_of_ble_eq_true rfl) dX7_box_197 ?_
      refine g_aload_n F dX7_box_200 0 rfl rfl ?_
      refine g_dup F dX7_box_201 rfl ?_
      refine G_X7_94 F dX7_box_202 ?_
      refine g_iconst (v := 1) F dX7_box_205 (by decide) ?_
      refine g_iadd F dX7_box_206 ?_
      refine P_X7_94 F dX7_box_207 ?_
      refine g_aload_n F dX7_box_210 0 rfl rfl ?_
      refine G_X7_94 F dX7_box_211 ?_
      refine g_iconst (v := 1) F dX7_box_214 (by decide) ?_
      refine g_isub F dX7_box_215 ?_
      exact g_retC (wf := wM Y q) F hr rfl hlk dX7_box_216 hX
    · have hX := if_f hX c7
      refine g_iconst (v := 0) F dX7_box_147 (by decide) ?_
      exact g_retC (wf := wM Y q) F hr rfl hlk dX7_box_148 hX
  have b132 : ∀  (x2 : Int32) (x3 : Int32) (x4 : Int32) (x5 : Int32) (v : St), pX7_box_b132  x2 x3 x4 x5 v = some (r, u1) → GW p l e { frames := 2, cells := 0, slots := 0, locals := 44 } s m args below meth c D A 8 0 0 (MQ below (QI D (wM Y q u1) r A) args s 0 0 A) (wM Y q v) 132 [(0, .ref (q 0)), (2, .int x2), (3, .int x3), (4, .int x4), (5, .int x5)] [.ref (q 0)] := by
    intro  x2 x3 x4 x5 v hX
    have hX : (pX7_box_b137 x2 x3 x4 x5 3 v) = some (r, u1) := hX
    refine g_iconst (v := 3) F dX7_box_132 (by decide) ?_
    refine g_goto (tgt := 137) F dX7_box_133 (by decide) ?_
    exact b137 x2 x3 x4 x5 3 v hX
  have b113 : ∀  (x2 : Int32) (x3 : Int32) (x4 : Int32) (x5 : Int32) (x7 : Int32) (v : St), pX7_box_b113  x2 x3 x4 x5 x7 v = some (r, u1) → GW p l e { frames := 2, cells := 0, slots := 0, locals := 44 } s m args below meth c D A 8 0 0 (MQ below (QI D (wM Y q u1) r A) args s 0 0 A) (wM Y q v) 113 [(0, .ref (q 0)), (2, .int x2), (3, .int x3), (4, .int x4), (5, .int x5), (7, .int x7)] [] := by
    intro  x2 x3 x4 x5 x7 v hX
    have hX : (if x7 = 0 then (bnd (pX7_stackMay (v.2 4) x5 v) (fun r15 w16 => if r15 = 0 then (pX7_box_b132 x2 x3 x4 x5 w16) else (pX7_box_b137 x2 x3 x4 x5 0 w16))) else (pX7_box_b132 x2 x3 x4 x5 v)) = some (r, u1) := hX
    refine g_aload_n F dX7_box_113 0 rfl rfl ?_
    refine g_iload F dX7_box_114 5 rfl ?_
    refine g_if_ne (tgt := 132) F dX7_box_116 (by decide) (fun c6 => ?_) (fun c6 => ?_)
    · have hX := if_f hX c6
      refine g_sub [0, 1, 2, 3, 4] rfl ?_
      exact b132 x2 x3 x4 x5 v hX
    · have hX := if_t hX c6
      refine g_aload_n F dX7_box_119 0 rfl rfl ?_
      refine g_aload_n F dX7_box_120 0 rfl rfl ?_
      refine G_X7_94 F dX7_box_121 ?_
      refine g_iload F dX7_box_124 4 rfl ?_
      obtain ⟨r15, w16, hc17, hX⟩ := bnd_s hX
      refine callX7_stackMay F hc17 ml_X7_136 ⟨Nat.le_of_ble_eq_true rfl, Nat.le_of_ble_eq_true rfl⟩ (Nat.le_of_ble_eq_true rfl) dX7_box_126 ?_
      refine g_if_ne (tgt := 136) F dX7_box_129 (by decide) (fun c18 => ?_) (fun c18 => ?_)
      · have hX := if_f hX c18
        refine g_iconst (v := 0) F dX7_box_136 (by decide) ?_
        refine g_sub [0, 1, 2, 3, 4] rfl ?_
        exact b137 x2 x3 x4 x5 0 w16 hX
      · have hX := if_t hX c18
        refine g_sub [0, 1, 2, 3, 4] rfl ?_
        exact b132 x2 x3 x4 x5 w16 hX
  have b96 : ∀  (x1 : Int32) (x2 : Int32) (x3 : Int32) (x4 : Int32) (x5 : Int32) (y0 : Int32) (v : St), pX7_box_b96  x1 x2 x3 x4 x5 y0 v = some (r, u1) → GW p l e { frames := 2, cells := 0, slots := 0, locals := 44 } s m args below meth c D A 8 0 0 (MQ below (QI D (wM Y q u1) r A) args s 0 0 A) (wM Y q v) 96 [(0, .ref (q 0)), (1, .int x1), (2, .int x2), (3, .int x3), (4, .int x4), (5, .int x5)] [.int y0] := by
    intro  x1 x2 x3 x4 x5 y0 v hX
    have hX : (if y0 = 0 then (if (v.2 4 < 0 ∨ 60 ≤ (v.2 4).toNatClampNeg) then none else (pX7_box_b113 x2 x3 x4 x5 y0 (sA v 5 (upd (v.1 5) (v.2 4).toNatClampNeg x1)))) else (pX7_box_b113 x2 x3 x4 x5 y0 v)) = some (r, u1) := hX
    refine g_istore (lv' := [(7, .int y0), (0, .ref (q 0)), (1, .int x1), (2, .int x2), (3, .int x3), (4, .int x4), (5, .int x5)]) F dX7_box_96 (by decide) rfl ?_
    refine g_iload F dX7_box_98 0 rfl ?_
    refine g_if_ne (tgt := 113) F dX7_box_100 (by decide) (fun c5 => ?_) (fun c5 => ?_)
    · have hX := if_f hX c5
      refine g_sub [1, 3, 4, 5, 6, 0] rfl ?_
      exact b113 x2 x3 x4 x5 y0 v hX
    · have hX := if_t hX c5
      refine g_aload_n F dX7_box_103 1 rfl rfl ?_
      refine G_X7_36 F dX7_box_104 ?_
      refine g_aload_n F dX7_box_107 1 rfl rfl ?_
      refine G_X7_94 F dX7_box_108 ?_
      refine g_iload_n F dX7_box_111 2 rfl rfl ?_
      obtain ⟨hI19, hX⟩ := inb hX
      refine AS_5 F hI19 dX7_box_112 ?_
      refine g_sub [1, 3, 4, 5, 6, 0] rfl ?_
      exact b113 x2 x3 x4 x5 y0 (sA v 5 (upd (v.1 5) (v.2 4).toNatClampNeg x1)) hX
  have b70 : ∀  (x1 : Int32) (x2 : Int32) (x3 : Int32) (x4 : Int32) (x5 : Int32) (y0 : Int32) (v : St), pX7_box_b70  x1 x2 x3 x4 x5 y0 v = some (r, u1) → GW p l e { frames := 2, cells := 0, slots := 0, locals := 44 } s m args below meth c D A 8 0 0 (MQ below (QI D (wM Y q u1) r A) args s 0 0 A) (wM Y q v) 70 [(0, .ref (q 0)), (1, .int x1), (2, .int x2), (3, .int x3), (4, .int x4), (5, .int x5)] [.int y0, .ref (q 0)] := by
    intro  x1 x2 x3 x4 x5 y0 v hX
    have hX : (if ((sS v 0 y0).2 0) ≤ 0 then (if ((sS v 0 y0).2 4) = 60 then (pX7_box_b96 x1 x2 x3 x4 x5 1 (sS v 0 y0)) else (pX7_box_b96 x1 x2 x3 x4 x5 0 (sS v 0 y0))) else (some (0, sS v 0 y0))) = some (r, u1) := hX
    refine P_X7_87 F dX7_box_70 ?_
    refine g_aload_n F dX7_box_73 0 rfl rfl ?_
    refine G_X7_87 F dX7_box_74 ?_
    refine g_if_le (tgt := 82) F dX7_box_77 (by decide) (fun c3 => ?_) (fun c3 => ?_)
    · have hX := if_t hX c3
      refine g_aload_n F dX7_box_82 0 rfl rfl ?_
      refine G_X7_94 F dX7_box_83 ?_
      refine g_bipush (v := 60) F dX7_box_86 (by decide) ?_
      refine g_icmp_ne (tgt := 95) F dX7_box_88 (by decide) (fun c4 => ?_) (fun c4 => ?_)
      · have hX := if_f hX c4
        refine g_iconst (v := 0) F dX7_box_95 (by decide) ?_
        exact b96 x1 x2 x3 x4 x5 0 (sS v 0 y0) hX
      · have hX := if_t hX c4
        refine g_iconst (v := 1) F dX7_box_91 (by decide) ?_
        refine g_goto (tgt := 96) F dX7_box_92 (by decide) ?_
        exact b96 x1 x2 x3 x4 x5 1 (sS v 0 y0) hX
    · have hX := if_f hX c3
      refine g_iconst (v := 0) F dX7_box_80 (by decide) ?_
      exact g_retC (wf := wM Y q) F hr rfl hlk dX7_box_81 hX
  have b56 : ∀  (x1 : Int32) (x2 : Int32) (x3 : Int32) (x4 : Int32) (x5 : Int32) (v : St), pX7_box_b56  x1 x2 x3 x4 x5 v = some (r, u1) → GW p l e { frames := 2, cells := 0, slots := 0, locals := 44 } s m args below meth c D A 8 0 0 (MQ below (QI D (wM Y q u1) r A) args s 0 0 A) (wM Y q v) 56 [(0, .ref (q 0)), (1, .int x1), (2, .int x2), (3, .int x3), (4, .int x4), (5, .int x5)] [.ref (q 0)] := by
    intro  x1 x2 x3 x4 x5 v hX
    have hX : (pX7_box_b70 x1 x2 x3 x4 x5 1 v) = some (r, u1) := hX
    refine g_iconst (v := 1) F dX7_box_56 (by decide) ?_
    refine g_goto (tgt := 70) F dX7_box_57 (by decide) ?_
    exact b70 x1 x2 x3 x4 x5 1 v hX
  have b35 : ∀  (x1 : Int32) (x2 : Int32) (x3 : Int32) (x4 : Int32) (x5 : Int32) (y0 : Int32) (v : St), pX7_box_b35  x1 x2 x3 x4 x5 y0 v = some (r, u1) → GW p l e { frames := 2, cells := 0, slots := 0, locals := 44 } s m args below meth c D A 8 0 0 (MQ below (QI D (wM Y q u1) r A) args s 0 0 A) (wM Y q v) 35 [(0, .ref (q 0)), (1, .int x1), (2, .int x2), (3, .int x3), (4, .int x4), (5, .int x5)] [.int y0] := by
    intro  x1 x2 x3 x4 x5 y0 v hX
    have hX : (if (pX7_in x3 0 9) = 0 then (pX7_box_b56 x1 x2 x3 x4 x5 v) else (if (pX7_isStack x5) = 0 then (pX7_box_b56 x1 x2 x3 x4 x5 v) else (if y0 = 0 then (pX7_box_b70 x1 x2 x3 x4 x5 2 v) else (pX7_box_b70 x1 x2 x3 x4 x5 0 v)))) = some (r, u1) := hX
    refine g_istore (lv' := [(6, .int y0), (0, .ref (q 0)), (1, .int x1), (2, .int x2), (3, .int x3), (4, .int x4), (5, .int x5)]) F dX7_box_35 (by decide) rfl ?_
    refine g_aload_n F dX7_box_37 1 rfl rfl ?_
    refine g_iload_n F dX7_box_38 4 rfl rfl ?_
    refine g_iconst (v := 0) F dX7_box_39 (by decide) ?_
    refine g_bipush (v := 9) F dX7_box_40 (by decide) ?_
    refine callX7_in F ml_X7_90 ⟨Nat.le_of_ble_eq_true rfl, Nat.le_of_ble_eq_true rfl⟩ (Nat.le_of_ble_eq_true rfl) dX7_box_42 ?_
    refine g_if_eq (tgt := 56) F dX7_box_45 (by decide) (fun c2 => ?_) (fun c2 => ?_)
    · have hX := if_t hX c2
      refine g_sub [1, 2, 3, 4, 5, 6] rfl ?_
      exact b56 x1 x2 x3 x4 x5 v hX
    · have hX := if_f hX c2
      refine g_iload F dX7_box_48 6 rfl ?_
      refine callX7_isStack F ml_X7_133 ⟨Nat.le_of_ble_eq_true rfl, Nat.le_of_ble_eq_true rfl⟩ (Nat.le_of_ble_eq_true rfl) dX7_box_50 ?_
      refine g_if_ne (tgt := 60) F dX7_box_53 (by decide) (fun c20 => ?_) (fun c20 => ?_)
      · have hX := if_f hX c20
        refine g_iload F dX7_box_60 0 rfl ?_
        refine g_if_eq (tgt := 69) F dX7_box_62 (by decide) (fun c21 => ?_) (fun c21 => ?_)
        · have hX := if_t hX c21
          refine g_iconst (v := 2) F dX7_box_69 (by decide) ?_
          refine g_sub [1, 2, 3, 4, 5, 6] rfl ?_
          exact b70 x1 x2 x3 x4 x5 2 v hX
        · have hX := if_f hX c21
          refine g_iconst (v := 0) F dX7_box_65 (by decide) ?_
          refine g_goto (tgt := 70) F dX7_box_66 (by decide) ?_
          refine g_sub [1, 2, 3, 4, 5, 6] rfl ?_
          exact b70 x1 x2 x3 x4 x5 0 v hX
      · have hX := if_t hX c20
        refine g_sub [1, 2, 3, 4, 5, 6] rfl ?_
        exact b56 x1 x2 x3 x4 x5 v hX
  have b34 : ∀  (x1 : Int32) (x2 : Int32) (x3 : Int32) (x4 : Int32) (x5 : Int32) (v : St), pX7_box_b34  x1 x2 x3 x4 x5 v = some (r, u1) → GW p l e { frames := 2, cells := 0, slots := 0, locals := 44 } s m args below meth c D A 8 0 0 (MQ below (QI D (wM Y q u1) r A) args s 0 0 A) (wM Y q v) 34 [(0, .ref (q 0)), (1, .int x1), (2, .int x2), (3, .int x3), (4, .int x4), (5, .int x5)] [] := by
    intro  x1 x2 x3 x4 x5 v hX
    have hX : (pX7_box_b35 x1 x2 x3 x4 x5 0 v) = some (r, u1) := hX
    refine g_iconst (v := 0) F dX7_box_34 (by decide) ?_
    exact b35 x1 x2 x3 x4 x5 0 v hX
  have hX : (if (pX7_in a1 1 40) = 0 then (pX7_box_b34 a1 a2 a3 a4 a5 u) else (if (pX7_in a2 1 40) = 0 then (pX7_box_b34 a1 a2 a3 a4 a5 u) else (if (pX7_in a4 0 4) = 0 then (pX7_box_b34 a1 a2 a3 a4 a5 u) else (pX7_box_b35 a1 a2 a3 a4 a5 1 u)))) = some (r, u1) := hX
  refine g_iload_n F dX7_box_0 1 rfl rfl ?_
  refine g_iconst (v := 1) F dX7_box_1 (by decide) ?_
  refine g_bipush (v := 40) F dX7_box_2 (by decide) ?_
  refine callX7_in F ml_X7_90 ⟨Nat.le_of_ble_eq_true rfl, Nat.le_of_ble_eq_true rfl⟩ (Nat.le_of_ble_eq_true rfl) dX7_box_4 ?_
  refine g_if_eq (tgt := 34) F dX7_box_7 (by decide) (fun c1 => ?_) (fun c1 => ?_)
  · have hX := if_t hX c1
    exact b34 a1 a2 a3 a4 a5 u hX
  · have hX := if_f hX c1
    refine g_iload_n F dX7_box_10 2 rfl rfl ?_
    refine g_iconst (v := 1) F dX7_box_11 (by decide) ?_
    refine g_bipush (v := 40) F dX7_box_12 (by decide) ?_
    refine callX7_in F ml_X7_90 ⟨Nat.le_of_ble_eq_true rfl, Nat.le_of_ble_eq_true rfl⟩ (Nat.le_of_ble_eq_true rfl) dX7_box_14 ?_
    refine g_if_eq (tgt := 34) F dX7_box_17 (by decide) (fun c22 => ?_) (fun c22 => ?_)
    · have hX := if_t hX c22
      exact b34 a1 a2 a3 a4 a5 u hX
    · have hX := if_f hX c22
      refine g_iload F dX7_box_20 4 rfl ?_
      refine g_iconst (v := 0) F dX7_box_22 (by decide) ?_
      refine g_iconst (v := 4) F dX7_box_23 (by decide) ?_
      refine callX7_in F ml_X7_90 ⟨Nat.le_of_ble_eq_true rfl, Nat.le_of_ble_eq_true rfl⟩ (Nat.le_of_ble_eq_true rfl) dX7_box_24 ?_
      refine g_if_eq (tgt := 34) F dX7_box_27 (by decide) (fun c23 => ?_) (fun c23 => ?_)
      · have hX := if_t hX c23
        exact b34 a1 a2 a3 a4 a5 u hX
      · have hX := if_f hX c23
        refine g_iconst (v := 1) F dX7_box_30 (by decide) ?_
        refine g_goto (tgt := 35) F dX7_box_31 (by decide) ?_
        exact b35 a1 a2 a3 a4 a5 1 u hX
theorem callX7_box {p : Program} {l : Launch} {e : Env} {R : Room} {s : State} {m : MethodId} {args : Array Value} {below : List Frame} {meth : Method} {c : Code} {D : va_G} {Y : Nat → ClassId} {A : Nat → Prop} {cc : ByteArray} {nL : Nat} {own : String} {Q : State → Prop} {pc : Nat} {lv : List (Nat × Value)} {rest : List Value} {q : Nat → Nat} {a1 a2 a3 a4 a5 : Int32} {u u1 : St} {r : Int32} (F : Fx p s m args c D Y A cc nL own) (hX : pX7_box a1 a2 a3 a4 a5 u = some (r, u1)) {index : Nat} (hml : Cond.methodLink own index yX7_box ∈ TBL) (hR : 2 + 1 ≤ R.frames ∧ 8 + (8 + 11) + 44 ≤ R.locals) (hcat : (rest.map fun v => v.category).sum ≤ 8) (hd : decode cc pc = .ok (.invokevirtual index, 3)) (kk : GW p l e R s m args below meth c D A nL 0 0 Q (wM Y q u1) (pc + 3) lv (.int r :: rest)) : GW p l e R s m args below meth c D A nL 0 0 Q (wM Y q u) pc lv (.int a5 :: .int a4 :: .int a3 :: .int a2 :: .int a1 :: .ref (q 0) :: rest) := g_callVi (ws := wM Y q u) (n := 5) (q0 := 0) (As := [.int a1, .int a2, .int a3, .int a4, .int a5]) F [] [] (kX7_box hX) (List.append_nil _).symm (List.append_nil _) (by unfold mOK; decide +kernel) rfl rfl cd_yX7_box hml im_yX7_box se_yX7_box in_X7 rfl rfl hR ⟨Nat.zero_le _, Nat.zero_le _⟩ rfl hcat hd kk
theorem dX7_paper_0 : decode cX7_paper 0 = .ok (.aload_n 0, 1) := by decide +kernel
theorem dX7_paper_1 : decode cX7_paper 1 = .ok (.aload_n 0, 1) := by decide +kernel
theorem dX7_paper_2 : decode cX7_paper 2 = .ok (.iload_n 1, 1) := by decide +kernel
theorem dX7_paper_3 : decode cX7_paper 3 = .ok (.invokevirtual 143, 3) := by decide +kernel
theorem dX7_paper_6 : decode cX7_paper 6 = .ok (.ifCond .eq 16, 3) := by decide +kernel
theorem dX7_paper_9 : decode cX7_paper 9 = .ok (.iload_n 2, 1) := by decide +kernel
theorem dX7_paper_10 : decode cX7_paper 10 = .ok (.iconst 0, 1) := by decide +kernel
theorem dX7_paper_11 : decode cX7_paper 11 = .ok (.iconst 2, 1) := by decide +kernel
theorem dX7_paper_12 : decode cX7_paper 12 = .ok (.invokestatic 90, 3) := by decide +kernel
theorem dX7_paper_15 : decode cX7_paper 15 = .ok (.ifCond .eq 7, 3) := by decide +kernel
theorem dX7_paper_18 : decode cX7_paper 18 = .ok (.iconst 0, 1) := by decide +kernel
theorem dX7_paper_19 : decode cX7_paper 19 = .ok (.goto 4, 3) := by decide +kernel
theorem dX7_paper_22 : decode cX7_paper 22 = .ok (.iconst 1, 1) := by decide +kernel
theorem dX7_paper_23 : decode cX7_paper 23 = .ok (.putfield 87, 3) := by decide +kernel
theorem dX7_paper_26 : decode cX7_paper 26 = .ok (.aload_n 0, 1) := by decide +kernel
theorem dX7_paper_27 : decode cX7_paper 27 = .ok (.getfield 87, 3) := by decide +kernel
theorem dX7_paper_30 : decode cX7_paper 30 = .ok (.ifCond .le 5, 3) := by decide +kernel
theorem dX7_paper_33 : decode cX7_paper 33 = .ok (.iconst 0, 1) := by decide +kernel
theorem dX7_paper_34 : decode cX7_paper 34 = .ok (.ireturn, 1) := by decide +kernel
theorem dX7_paper_35 : decode cX7_paper 35 = .ok (.aload_n 0, 1) := by decide +kernel
theorem dX7_paper_36 : decode cX7_paper 36 = .ok (.getfield 48, 3) := by decide +kernel
theorem dX7_paper_39 : decode cX7_paper 39 = .ok (.iload_n 1, 1) := by decide +kernel
theorem dX7_paper_40 : decode cX7_paper 40 = .ok (.dup2, 1) := by decide +kernel
theorem dX7_paper_41 : decode cX7_paper 41 = .ok (.iaload, 1) := by decide +kernel
theorem dX7_paper_42 : decode cX7_paper 42 = .ok (.iconst 1, 1) := by decide +kernel
theorem dX7_paper_43 : decode cX7_paper 43 = .ok (.iload_n 2, 1) := by decide +kernel
theorem dX7_paper_44 : decode cX7_paper 44 = .ok (.ishl, 1) := by decide +kernel
theorem dX7_paper_45 : decode cX7_paper 45 = .ok (.ixor, 1) := by decide +kernel
theorem dX7_paper_46 : decode cX7_paper 46 = .ok (.iastore, 1) := by decide +kernel
theorem dX7_paper_47 : decode cX7_paper 47 = .ok (.aload_n 0, 1) := by decide +kernel
theorem dX7_paper_48 : decode cX7_paper 48 = .ok (.iload_n 1, 1) := by decide +kernel
theorem dX7_paper_49 : decode cX7_paper 49 = .ok (.invokevirtual 146, 3) := by decide +kernel
theorem dX7_paper_52 : decode cX7_paper 52 = .ok (.ireturn, 1) := by decide +kernel
def pX7_paper_b23  (x1 : Int32) (x2 : Int32) (y0 : Int32) (v : St) : Option (Int32 × St) := if ((sS v 0 y0).2 0) ≤ 0 then (if (x1 < 0 ∨ 60 ≤ x1.toNatClampNeg) then none else (if (x1 < 0 ∨ 60 ≤ x1.toNatClampNeg) then none else (bnd (pX7_isHeld x1 (sA (sS v 0 y0) 9 (upd ((sS v 0 y0).1 9) x1.toNatClampNeg (((sS v 0 y0).1 9 x1.toNatClampNeg) ^^^ (1 <<< (x2 &&& 31)))))) (fun r8 w9 => if r8 = 0 ∨ r8 = 1 then some (r8, w9) else none)))) else (some (0, sS v 0 y0))
def pX7_paper_b22  (x1 : Int32) (x2 : Int32) (v : St) : Option (Int32 × St) := pX7_paper_b23 x1 x2 1 v
def pX7_paper (a1 : Int32) (a2 : Int32) (u : St) : Option (Int32 × St) := bnd (pX7_isBox a1 u) (fun r1 w2 => if r1 = 0 then (pX7_paper_b22 a1 a2 w2) else (if (pX7_in a2 0 2) = 0 then (pX7_paper_b22 a1 a2 w2) else (pX7_paper_b23 a1 a2 0 w2)))
set_option maxHeartbeats 4000000 in
set_option maxRecDepth 20000 in
theorem kX7_paper {l : Launch} {D : va_G} {Y : Nat → ClassId} {q : Nat → Nat} {a1 a2 : Int32} {u u1 : St} {r : Int32} (hX : pX7_paper a1 a2 u = some (r, u1)) : CMi l yX7_paper cX7_paper 3 (some .boolean) 2 43 D Y (wM Y q u) (wM Y q u1) [.ref (q 0), .int a1, .int a2] r := by
  refine cm_ofi (by decide) (Nat.le_of_ble_eq_true rfl) rfl (fun p e s m args below meth c A F hr hlk => ?_)
  show GW p l e { frames := 2, cells := 0, slots := 0, locals := 43 } s m args below meth c D A 3 0 0 (MQ below (QI D (wM Y q u1) r A) args s 0 0 A) (wM Y q u) 0 [(0, .ref (q 0)), (1, .int a1), (2, .int a2)] []
  have b23 : ∀  (x1 : Int32) (x2 : Int32) (y0 : Int32) (v : St), pX7_paper_b23  x1 x2 y0 v = some (r, u1) → GW p l e { frames := 2, cells := 0, slots := 0, locals := 43 } s m args below meth c D A 3 0 0 (MQ below (QI D (wM Y q u1) r A) args s 0 0 A) (wM Y q v) 23 [(0, .ref (q 0)), (1, .int x1), (2, .int x2)] [.int y0, .ref (q 0)] := by
    intro  x1 x2 y0 v hX
    have hX : (if ((sS v 0 y0).2 0) ≤ 0 then (if (x1 < 0 ∨ 60 ≤ x1.toNatClampNeg) then none else (if (x1 < 0 ∨ 60 ≤ x1.toNatClampNeg) then none else (bnd (pX7_isHeld x1 (sA (sS v 0 y0) 9 (upd ((sS v 0 y0).1 9) x1.toNatClampNeg (((sS v 0 y0).1 9 x1.toNatClampNeg) ^^^ (1 <<< (x2 &&& 31)))))) (fun r8 w9 => if r8 = 0 ∨ r8 = 1 then some (r8, w9) else none)))) else (some (0, sS v 0 y0))) = some (r, u1) := hX
    refine P_X7_87 F dX7_paper_23 ?_
    refine g_aload_n F dX7_paper_26 0 rfl rfl ?_
    refine G_X7_87 F dX7_paper_27 ?_
    refine g_if_le (tgt := 35) F dX7_paper_30 (by decide) (fun c5 => ?_) (fun c5 => ?_)
    · have hX := if_t hX c5
      refine g_aload_n F dX7_paper_35 0 rfl rfl ?_
      refine G_X7_48 F dX7_paper_36 ?_
      refine g_iload_n F dX7_paper_39 1 rfl rfl ?_
      refine g_dup2 F dX7_paper_40 rfl rfl ?_
      obtain ⟨hI6, hX⟩ := inb hX
      refine AL_9 F hI6 dX7_paper_41 ?_
      refine g_iconst (v := 1) F dX7_paper_42 (by decide) ?_
      refine g_iload_n F dX7_paper_43 2 rfl rfl ?_
      refine g_ishl F dX7_paper_44 ?_
      refine g_ixor F dX7_paper_45 ?_
      obtain ⟨hI7, hX⟩ := inb hX
      refine AS_9 F hI7 dX7_paper_46 ?_
      refine g_aload_n F dX7_paper_47 0 rfl rfl ?_
      refine g_iload_n F dX7_paper_48 1 rfl rfl ?_
      obtain ⟨r8, w9, hc10, hX⟩ := bnd_s hX
      refine callX7_isHeld F hc10 ml_X7_146 ⟨Nat.le_of_ble_eq_true rfl, Nat.le_of_ble_eq_true rfl⟩ (Nat.le_of_ble_eq_true rfl) dX7_paper_49 ?_
      exact g_retCb (wf := wM Y q) F hr hlk dX7_paper_52 hX
    · have hX := if_f hX c5
      refine g_iconst (v := 0) F dX7_paper_33 (by decide) ?_
      exact g_retC (wf := wM Y q) F hr rfl hlk dX7_paper_34 hX
  have b22 : ∀  (x1 : Int32) (x2 : Int32) (v : St), pX7_paper_b22  x1 x2 v = some (r, u1) → GW p l e { frames := 2, cells := 0, slots := 0, locals := 43 } s m args below meth c D A 3 0 0 (MQ below (QI D (wM Y q u1) r A) args s 0 0 A) (wM Y q v) 22 [(0, .ref (q 0)), (1, .int x1), (2, .int x2)] [.ref (q 0)] := by
    intro  x1 x2 v hX
    have hX : (pX7_paper_b23 x1 x2 1 v) = some (r, u1) := hX
    refine g_iconst (v := 1) F dX7_paper_22 (by decide) ?_
    exact b23 x1 x2 1 v hX
  have hX : (bnd (pX7_isBox a1 u) (fun r1 w2 => if r1 = 0 then (pX7_paper_b22 a1 a2 w2) else (if (pX7_in a2 0 2) = 0 then (pX7_paper_b22 a1 a2 w2) else (pX7_paper_b23 a1 a2 0 w2)))) = some (r, u1) := hX
  refine g_aload_n F dX7_paper_0 0 rfl rfl ?_
  refine g_aload_n F dX7_paper_1 0 rfl rfl ?_
  refine g_iload_n F dX7_paper_2 1 rfl rfl ?_
  obtain ⟨r1, w2, hc3, hX⟩ := bnd_s hX
  refine callX7_isBox F hc3 ml_X7_143 ⟨Nat.le_of_ble_eq_true rfl, Nat.le_of_ble_eq_true rfl⟩ (Nat.le_of_ble_eq_true rfl) dX7_paper_3 ?_
  refine g_if_eq (tgt := 22) F dX7_paper_6 (by decide) (fun c4 => ?_) (fun c4 => ?_)
  · have hX := if_t hX c4
    exact b22 a1 a2 w2 hX
  · have hX := if_f hX c4
    refine g_iload_n F dX7_paper_9 2 rfl rfl ?_
    refine g_iconst (v := 0) F dX7_paper_10 (by decide) ?_
    refine g_iconst (v := 2) F dX7_paper_11 (by decide) ?_
    refine callX7_in F ml_X7_90 ⟨Nat.le_of_ble_eq_true rfl, Nat.le_of_ble_eq_true rfl⟩ (Nat.le_of_ble_eq_true rfl) dX7_paper_12 ?_
    refine g_if_eq (tgt := 22) F dX7_paper_15 (by decide) (fun c11 => ?_) (fun c11 => ?_)
    · have hX := if_t hX c11
      exact b22 a1 a2 w2 hX
    · have hX := if_f hX c11
      refine g_iconst (v := 0) F dX7_paper_18 (by decide) ?_
      refine g_goto (tgt := 23) F dX7_paper_19 (by decide) ?_
      exact b23 a1 a2 0 w2 hX
theorem callX7_paper {p : Program} {l : Launch} {e : Env} {R : Room} {s : State} {m : MethodId} {args : Array Value} {below : List Frame} {meth : Method} {c : Code} {D : va_G} {Y : Nat → ClassId} {A : Nat → Prop} {cc : ByteArray} {nL : Nat} {own : String} {Q : State → Prop} {pc : Nat} {lv : List (Nat × Value)} {rest : List Value} {q : Nat → Nat} {a1 a2 : Int32} {u u1 : St} {r : Int32} (F : Fx p s m args c D Y A cc nL own) (hX : pX7_paper a1 a2 u = some (r, u1)) {index : Nat} (hml : Cond.methodLink own index yX7_paper ∈ TBL) (hR : 2 + 1 ≤ R.frames ∧ 8 + (3 + 11) + 43 ≤ R.locals) (hcat : (rest.map fun v => v.category).sum ≤ 8) (hd : decode cc pc = .ok (.invokevirtual index, 3)) (kk : GW p l e R s m args below meth c D A nL 0 0 Q (wM Y q u1) (pc + 3) lv (.int r :: rest)) : GW p l e R s m args below meth c D A nL 0 0 Q (wM Y q u) pc lv (.int a2 :: .int a1 :: .ref (q 0) :: rest) := g_callVi (ws := wM Y q u) (n := 2) (q0 := 0) (As := [.int a1, .int a2]) F [] [] (kX7_paper hX) (List.append_nil _).symm (List.append_nil _) (by unfold mOK; decide +kernel) rfl rfl cd_yX7_paper hml im_yX7_paper se_yX7_paper in_X7 rfl rfl hR ⟨Nat.zero_le _, Nat.zero_le _⟩ rfl hcat hd kk
theorem dX7_skip_0 : decode cX7_skip 0 = .ok (.aload_n 0, 1) := by decide +kernel
theorem dX7_skip_1 : decode cX7_skip 1 = .ok (.iload_n 1, 1) := by decide +kernel
theorem dX7_skip_2 : decode cX7_skip 2 = .ok (.iconst 1, 1) := by decide +kernel
theorem dX7_skip_3 : decode cX7_skip 3 = .ok (.bipush 8, 2) := by decide +kernel
theorem dX7_skip_5 : decode cX7_skip 5 = .ok (.invokestatic 90, 3) := by decide +kernel
theorem dX7_skip_8 : decode cX7_skip 8 = .ok (.ifCond .ne 7, 3) := by decide +kernel
theorem dX7_skip_11 : decode cX7_skip 11 = .ok (.iconst 1, 1) := by decide +kernel
theorem dX7_skip_12 : decode cX7_skip 12 = .ok (.goto 16, 3) := by decide +kernel
theorem dX7_skip_15 : decode cX7_skip 15 = .ok (.aload_n 0, 1) := by decide +kernel
theorem dX7_skip_16 : decode cX7_skip 16 = .ok (.iload_n 1, 1) := by decide +kernel
theorem dX7_skip_17 : decode cX7_skip 17 = .ok (.invokevirtual 149, 3) := by decide +kernel
theorem dX7_skip_20 : decode cX7_skip 20 = .ok (.ifCond .eq 7, 3) := by decide +kernel
theorem dX7_skip_23 : decode cX7_skip 23 = .ok (.iconst 0, 1) := by decide +kernel
theorem dX7_skip_24 : decode cX7_skip 24 = .ok (.goto 4, 3) := by decide +kernel
theorem dX7_skip_27 : decode cX7_skip 27 = .ok (.iconst 2, 1) := by decide +kernel
theorem dX7_skip_28 : decode cX7_skip 28 = .ok (.putfield 87, 3) := by decide +kernel
theorem dX7_skip_31 : decode cX7_skip 31 = .ok (.aload_n 0, 1) := by decide +kernel
theorem dX7_skip_32 : decode cX7_skip 32 = .ok (.getfield 87, 3) := by decide +kernel
theorem dX7_skip_35 : decode cX7_skip 35 = .ok (.ifCond .le 5, 3) := by decide +kernel
theorem dX7_skip_38 : decode cX7_skip 38 = .ok (.iconst 0, 1) := by decide +kernel
theorem dX7_skip_39 : decode cX7_skip 39 = .ok (.ireturn, 1) := by decide +kernel
theorem dX7_skip_40 : decode cX7_skip 40 = .ok (.aload_n 0, 1) := by decide +kernel
theorem dX7_skip_41 : decode cX7_skip 41 = .ok (.getfield 63, 3) := by decide +kernel
theorem dX7_skip_44 : decode cX7_skip 44 = .ok (.iload_n 1, 1) := by decide +kernel
theorem dX7_skip_45 : decode cX7_skip 45 = .ok (.iconst 1, 1) := by decide +kernel
theorem dX7_skip_46 : decode cX7_skip 46 = .ok (.bastore, 1) := by decide +kernel
theorem dX7_skip_47 : decode cX7_skip 47 = .ok (.iconst 0, 1) := by decide +kernel
theorem dX7_skip_48 : decode cX7_skip 48 = .ok (.istore_n 2, 1) := by decide +kernel
theorem dX7_skip_49 : decode cX7_skip 49 = .ok (.iconst 0, 1) := by decide +kernel
theorem dX7_skip_50 : decode cX7_skip 50 = .ok (.istore_n 3, 1) := by decide +kernel
theorem dX7_skip_51 : decode cX7_skip 51 = .ok (.iload_n 3, 1) := by decide +kernel
theorem dX7_skip_52 : decode cX7_skip 52 = .ok (.aload_n 0, 1) := by decide +kernel
theorem dX7_skip_53 : decode cX7_skip 53 = .ok (.getfield 94, 3) := by decide +kernel
theorem dX7_skip_56 : decode cX7_skip 56 = .ok (.if_icmp .ge 43, 3) := by decide +kernel
theorem dX7_skip_59 : decode cX7_skip 59 = .ok (.aload_n 0, 1) := by decide +kernel
theorem dX7_skip_60 : decode cX7_skip 60 = .ok (.getfield 51, 3) := by decide +kernel
theorem dX7_skip_63 : decode cX7_skip 63 = .ok (.iload_n 3, 1) := by decide +kernel
theorem dX7_skip_64 : decode cX7_skip 64 = .ok (.iaload, 1) := by decide +kernel
theorem dX7_skip_65 : decode cX7_skip 65 = .ok (.iconst 2, 1) := by decide +kernel
theorem dX7_skip_66 : decode cX7_skip 66 = .ok (.if_icmp .eq 27, 3) := by decide +kernel
theorem dX7_skip_69 : decode cX7_skip 69 = .ok (.aload_n 0, 1) := by decide +kernel
theorem dX7_skip_70 : decode cX7_skip 70 = .ok (.getfield 42, 3) := by decide +kernel
theorem dX7_skip_73 : decode cX7_skip 73 = .ok (.iload_n 3, 1) := by decide +kernel
theorem dX7_skip_74 : decode cX7_skip 74 = .ok (.iaload, 1) := by decide +kernel
theorem dX7_skip_75 : decode cX7_skip 75 = .ok (.iload_n 1, 1) := by decide +kernel
theorem dX7_skip_76 : decode cX7_skip 76 = .ok (.if_icmp .ne 17, 3) := by decide +kernel
theorem dX7_skip_79 : decode cX7_skip 79 = .ok (.aload_n 0, 1) := by decide +kernel
theorem dX7_skip_80 : decode cX7_skip 80 = .ok (.getfield 42, 3) := by decide +kernel
theorem dX7_skip_83 : decode cX7_skip 83 = .ok (.iload_n 3, 1) := by decide +kernel
theorem dX7_skip_84 : decode cX7_skip 84 = .ok (.aload_n 0, 1) := by decide +kernel
theorem dX7_skip_85 : decode cX7_skip 85 = .ok (.iload_n 1, 1) := by decide +kernel
theorem dX7_skip_86 : decode cX7_skip 86 = .ok (.invokevirtual 152, 3) := by decide +kernel
theorem dX7_skip_89 : decode cX7_skip 89 = .ok (.iastore, 1) := by decide +kernel
theorem dX7_skip_90 : decode cX7_skip 90 = .ok (.iinc 2 1, 3) := by decide +kernel
theorem dX7_skip_93 : decode cX7_skip 93 = .ok (.iinc 3 1, 3) := by decide +kernel
theorem dX7_skip_96 : decode cX7_skip 96 = .ok (.goto (-45), 3) := by decide +kernel
theorem dX7_skip_99 : decode cX7_skip 99 = .ok (.iload_n 2, 1) := by decide +kernel
theorem dX7_skip_100 : decode cX7_skip 100 = .ok (.ireturn, 1) := by decide +kernel
def pX7_skip_b93 (K51 : Int32 → Int32 → Int32 → St → Option (Int32 × St)) (x1 : Int32) (x2 : Int32) (x3 : Int32) (v : St) : Option (Int32 × St) := K51 x1 x2 (x3 + 1) v
def pX7_skip_b51  (n : Nat) : Int32 → Int32 → Int32 → St → Option (Int32 × St) := Nat.rec (fun _ _ _ _ => none) (fun _ K51 x1 x2 x3 v => if (v.2 4) ≤ x3 then (some (x2, v)) else (if (x3 < 0 ∨ 60 ≤ x3.toNatClampNeg) then none else (if (v.1 10 x3.toNatClampNeg) = 2 then (pX7_skip_b93 K51 x1 x2 x3 v) else (if (x3 < 0 ∨ 60 ≤ x3.toNatClampNeg) then none else (if (v.1 7 x3.toNatClampNeg) = x1 then (bnd (pX7_nextPort x1 v) (fun r13 w14 => if (x3 < 0 ∨ 60 ≤ x3.toNatClampNeg) then none else (pX7_skip_b93 K51 x1 (x2 + 1) x3 (sA w14 7 (upd (w14.1 7) x3.toNatClampNeg r13))))) else (pX7_skip_b93 K51 x1 x2 x3 v)))))) n
def pX7_skip_b28  (x1 : Int32) (y0 : Int32) (v : St) : Option (Int32 × St) := if ((sS v 0 y0).2 0) ≤ 0 then (if (x1 < 0 ∨ 10 ≤ x1.toNatClampNeg) then none else (pX7_skip_b51 100 x1 0 0 (sA (sS v 0 y0) 14 (upd ((sS v 0 y0).1 14) x1.toNatClampNeg (vp_nar .boolean 1))))) else (some (0, sS v 0 y0))
def pX7_skip (a1 : Int32) (u : St) : Option (Int32 × St) := if (pX7_in a1 1 8) = 0 then (pX7_skip_b28 a1 1 u) else (bnd (pX7_isAhead a1 u) (fun r2 w3 => if r2 = 0 then (pX7_skip_b28 a1 2 w3) else (pX7_skip_b28 a1 0 w3)))
set_option maxHeartbeats 4000000 in
set_option maxRecDepth 20000 in
theorem kX7_skip {l : Launch} {D : va_G} {Y : Nat → ClassId} {q : Nat → Nat} {a1 : Int32} {u u1 : St} {r : Int32} (hX : pX7_skip a1 u = some (r, u1)) : CMi l yX7_skip cX7_skip 4 (some .int) 1 22 D Y (wM Y q u) (wM Y q u1) [.ref (q 0), .int a1] r := by
  refine cm_ofi (by decide) (Nat.le_of_ble_eq_true rfl) rfl (fun p e s m args below meth c A F hr hlk => ?_)
  show GW p l e { frames := 1, cells := 0, slots := 0, locals := 22 } s m args below meth c D A 4 0 0 (MQ below (QI D (wM Y q u1) r A) args s 0 0 A) (wM Y q u) 0 [(0, .ref (q 0)), (1, .int a1)] []
  have b93 : ∀ (K51 : Int32 → Int32 → Int32 → St → Option (Int32 × St)) (hK51 : ∀ (x1 : Int32) (x2 : Int32) (x3 : Int32) (v : St), K51 x1 x2 x3 v = some (r, u1) → GW p l e { frames := 1, cells := 0, slots := 0, locals := 22 } s m args below meth c D A 4 0 0 (MQ below (QI D (wM Y q u1) r A) args s 0 0 A) (wM Y q v) 51 [(0, .ref (q 0)), (1, .int x1), (2, .int x2), (3, .int x3)] []) (x1 : Int32) (x2 : Int32) (x3 : Int32) (v : St), pX7_skip_b93 K51 x1 x2 x3 v = some (r, u1) → GW p l e { frames := 1, cells := 0, slots := 0, locals := 22 } s m args below meth c D A 4 0 0 (MQ below (QI D (wM Y q u1) r A) args s 0 0 A) (wM Y q v) 93 [(0, .ref (q 0)), (1, .int x1), (2, .int x2), (3, .int x3)] [] := by
    intro K51 hK51 x1 x2 x3 v hX
    have hX : (K51 x1 x2 (x3 + 1) v) = some (r, u1) := hX
    refine g_iinc (v := x3 + 1) (lv' := [(3, .int (x3 + 1)), (0, .ref (q 0)), (1, .int x1), (2, .int x2)]) F dX7_skip_93 3 rfl rfl (by decide) rfl ?_
    refine g_goto (tgt := 51) F dX7_skip_96 (by decide) ?_
    refine g_sub [1, 2, 3, 0] rfl ?_
    exact hK51 x1 x2 (x3 + 1) v hX
  have b51 : ∀  (n : Nat) (x1 : Int32) (x2 : Int32) (x3 : Int32) (v : St), pX7_skip_b51  n x1 x2 x3 v = some (r, u1) → GW p l e { frames := 1, cells := 0, slots := 0, locals := 22 } s m args below meth c D A 4 0 0 (MQ below (QI D (wM Y q u1) r A) args s 0 0 A) (wM Y q v) 51 [(0, .ref (q 0)), (1, .int x1), (2, .int x2), (3, .int x3)] [] := by
    intro  n
    induction n with
    | zero => intro x1 x2 x3 v hX; cases hX
    | succ n ih =>
      intro x1 x2 x3 v hX
      obtain ⟨K51, eK⟩ : ∃ K : Int32 → Int32 → Int32 → St → Option (Int32 × St), K = pX7_skip_b51  n := ⟨_, rfl⟩
      have hK51 : ∀ (x1 : Int32) (x2 : Int32) (x3 : Int32) (v : St), K51 x1 x2 x3 v = some (r, u1) → GW p l e { frames := 1, cells := 0, slots := 0, locals := 22 } s m args below meth c D A 4 0 0 (MQ below (QI D (wM Y q u1) r A) args s 0 0 A) (wM Y q v) 51 [(0, .ref (q 0)), (1, .int x1), (2, .int x2), (3, .int x3)] [] := by rw [eK]; exact ih
      have hX : (if (v.2 4) ≤ x3 then (some (x2, v)) else (if (x3 < 0 ∨ 60 ≤ x3.toNatClampNeg) then none else (if (v.1 10 x3.toNatClampNeg) = 2 then (pX7_skip_b93 K51 x1 x2 x3 v) else (if (x3 < 0 ∨ 60 ≤ x3.toNatClampNeg) then none else (if (v.1 7 x3.toNatClampNeg) = x1 then (bnd (pX7_nextPort x1 v) (fun r13 w14 => if (x3 < 0 ∨ 60 ≤ x3.toNatClampNeg) then none else (pX7_skip_b93 K51 x1 (x2 + 1) x3 (sA w14 7 (upd (w14.1 7) x3.toNatClampNeg r13))))) else (pX7_skip_b93 K51 x1 x2 x3 v)))))) = some (r, u1) := by rw [eK]; exact hX
      refine g_iload_n F dX7_skip_51 3 rfl rfl ?_
      refine g_aload_n F dX7_skip_52 0 rfl rfl ?_
      refine G_X7_94 F dX7_skip_53 ?_
      refine g_icmp_ge (tgt := 99) F dX7_skip_56 (by decide) (fun c8 => ?_) (fun c8 => ?_)
      · have hX := if_t hX c8
        refine g_iload_n F dX7_skip_99 2 rfl rfl ?_
        exact g_retC (wf := wM Y q) F hr rfl hlk dX7_skip_100 hX
      · have hX := if_f hX c8
        refine g_aload_n F dX7_skip_59 0 rfl rfl ?_
        refine G_X7_51 F dX7_skip_60 ?_
        refine g_iload_n F dX7_skip_63 3 rfl rfl ?_
        obtain ⟨hI9, hX⟩ := inb hX
        refine AL_10 F hI9 dX7_skip_64 ?_
        refine g_iconst (v := 2) F dX7_skip_65 (by decide) ?_
        refine g_icmp_eq (tgt := 93) F dX7_skip_66 (by decide) (fun c10 => ?_) (fun c10 => ?_)
        · have hX := if_t hX c10
          exact b93 K51 hK51 x1 x2 x3 v hX
        · have hX := if_f hX c10
          refine g_aload_n F dX7_skip_69 0 rfl rfl ?_
          refine G_X7_42 F dX7_skip_70 ?_
          refine g_iload_n F dX7_skip_73 3 rfl rfl ?_
          obtain ⟨hI11, hX⟩ := inb hX
          refine AL_7 F hI11 dX7_skip_74 ?_
          refine g_iload_n F dX7_skip_75 1 rfl rfl ?_
          refine g_icmp_ne (tgt := 93) F dX7_skip_76 (by decide) (fun c12 => ?_) (fun c12 => ?_)
          · have hX := if_f hX c12
            exact b93 K51 hK51 x1 x2 x3 v hX
          · have hX := if_t hX c12
            refine g_aload_n F dX7_skip_79 0 rfl rfl ?_
            refine G_X7_42 F dX7_skip_80 ?_
            refine g_iload_n F dX7_skip_83 3 rfl rfl ?_
            refine g_aload_n F dX7_skip_84 0 rfl rfl ?_
            refine g_iload_n F dX7_skip_85 1 rfl rfl ?_
            obtain ⟨r13, w14, hc15, hX⟩ := bnd_s hX
            refine callX7_nextPort F hc15 ml_X7_152 ⟨Nat.le_of_ble_eq_true rfl, Nat.le_of_ble_eq_true rfl⟩ (Nat.le_of_ble_eq_true rfl) dX7_skip_86 ?_
            obtain ⟨hI16, hX⟩ := inb hX
            refine AS_7 F hI16 dX7_skip_89 ?_
            refine g_iinc (v := x2 + 1) (lv' := [(2, .int (x2 + 1)), (0, .ref (q 0)), (1, .int x1), (3, .int x3)]) F dX7_skip_90 2 rfl rfl (by decide) rfl ?_
            refine g_sub [1, 2, 0, 3] rfl ?_
            exact b93 K51 hK51 x1 (x2 + 1) x3 (sA w14 7 (upd (w14.1 7) x3.toNatClampNeg r13)) hX
  have b28 : ∀  (x1 : Int32) (y0 : Int32) (v : St), pX7_skip_b28  x1 y0 v = some (r, u1) → GW p l e { frames := 1, cells := 0, slots := 0, locals := 22 } s m args below meth c D A 4 0 0 (MQ below (QI D (wM Y q u1) r A) args s 0 0 A) (wM Y q v) 28 [(0, .ref (q 0)), (1, .int x1)] [.int y0, .ref (q 0)] := by
    intro  x1 y0 v hX
    have hX : (if ((sS v 0 y0).2 0) ≤ 0 then (if (x1 < 0 ∨ 10 ≤ x1.toNatClampNeg) then none else (pX7_skip_b51 100 x1 0 0 (sA (sS v 0 y0) 14 (upd ((sS v 0 y0).1 14) x1.toNatClampNeg (vp_nar .boolean 1))))) else (some (0, sS v 0 y0))) = some (r, u1) := hX
    refine P_X7_87 F dX7_skip_28 ?_
    refine g_aload_n F dX7_skip_31 0 rfl rfl ?_
    refine G_X7_87 F dX7_skip_32 ?_
    refine g_if_le (tgt := 40) F dX7_skip_35 (by decide) (fun c6 => ?_) (fun c6 => ?_)
    · have hX := if_t hX c6
      refine g_aload_n F dX7_skip_40 0 rfl rfl ?_
      refine G_X7_63 F dX7_skip_41 ?_
      refine g_iload_n F dX7_skip_44 1 rfl rfl ?_
      refine g_iconst (v := 1) F dX7_skip_45 (by decide) ?_
      obtain ⟨hI7, hX⟩ := inb hX
      refine AS_14 F hI7 dX7_skip_46 ?_
      refine g_iconst (v := 0) F dX7_skip_47 (by decide) ?_
      refine g_istore_n (lv' := [(2, .int 0), (0, .ref (q 0)), (1, .int x1)]) F dX7_skip_48 rfl (by decide) rfl ?_
      refine g_iconst (v := 0) F dX7_skip_49 (by decide) ?_
      refine g_istore_n (lv' := [(3, .int 0), (2, .int 0), (0, .ref (q 0)), (1, .int x1)]) F dX7_skip_50 rfl (by decide) rfl ?_
      refine g_sub [2, 3, 1, 0] rfl ?_
      exact b51 100 x1 0 0 (sA (sS v 0 y0) 14 (upd ((sS v 0 y0).1 14) x1.toNatClampNeg (vp_nar .boolean 1))) hX
    · have hX := if_f hX c6
      refine g_iconst (v := 0) F dX7_skip_38 (by decide) ?_
      exact g_retC (wf := wM Y q) F hr rfl hlk dX7_skip_39 hX
  have hX : (if (pX7_in a1 1 8) = 0 then (pX7_skip_b28 a1 1 u) else (bnd (pX7_isAhead a1 u) (fun r2 w3 => if r2 = 0 then (pX7_skip_b28 a1 2 w3) else (pX7_skip_b28 a1 0 w3)))) = some (r, u1) := hX
  refine g_aload_n F dX7_skip_0 0 rfl rfl ?_
  refine g_iload_n F dX7_skip_1 1 rfl rfl ?_
  refine g_iconst (v := 1) F dX7_skip_2 (by decide) ?_
  refine g_bipush (v := 8) F dX7_skip_3 (by decide) ?_
  refine callX7_in F ml_X7_90 ⟨Nat.le_of_ble_eq_true rfl, Nat.le_of_ble_eq_true rfl⟩ (Nat.le_of_ble_eq_true rfl) dX7_skip_5 ?_
  refine g_if_ne (tgt := 15) F dX7_skip_8 (by decide) (fun c1 => ?_) (fun c1 => ?_)
  · have hX := if_f hX c1
    refine g_aload_n F dX7_skip_15 0 rfl rfl ?_
    refine g_iload_n F dX7_skip_16 1 rfl rfl ?_
    obtain ⟨r2, w3, hc4, hX⟩ := bnd_s hX
    refine callX7_isAhead F hc4 ml_X7_149 ⟨Nat.le_of_ble_eq_true rfl, Nat.le_of_ble_eq_true rfl⟩ (Nat.le_of_ble_eq_true rfl) dX7_skip_17 ?_
    refine g_if_eq (tgt := 27) F dX7_skip_20 (by decide) (fun c5 => ?_) (fun c5 => ?_)
    · have hX := if_t hX c5
      refine g_iconst (v := 2) F dX7_skip_27 (by decide) ?_
      exact b28 a1 2 w3 hX
    · have hX := if_f hX c5
      refine g_iconst (v := 0) F dX7_skip_23 (by decide) ?_
      refine g_goto (tgt := 28) F dX7_skip_24 (by decide) ?_
      exact b28 a1 0 w3 hX
  · have hX := if_t hX c1
    refine g_iconst (v := 1) F dX7_skip_11 (by decide) ?_
    refine g_goto (tgt := 28) F dX7_skip_12 (by decide) ?_
    exact b28 a1 1 u hX
theorem callX7_skip {p : Program} {l : Launch} {e : Env} {R : Room} {s : State} {m : MethodId} {args : Array Value} {below : List Frame} {meth : Method} {c : Code} {D : va_G} {Y : Nat → ClassId} {A : Nat → Prop} {cc : ByteArray} {nL : Nat} {own : String} {Q : State → Prop} {pc : Nat} {lv : List (Nat × Value)} {rest : List Value} {q : Nat → Nat} {a1 : Int32} {u u1 : St} {r : Int32} (F : Fx p s m args c D Y A cc nL own) (hX : pX7_skip a1 u = some (r, u1)) {index : Nat} (hml : Cond.methodLink own index yX7_skip ∈ TBL) (hR : 1 + 1 ≤ R.frames ∧ 8 + (4 + 11) + 22 ≤ R.locals) (hcat : (rest.map fun v => v.category).sum ≤ 8) (hd : decode cc pc = .ok (.invokevirtual index, 3)) (kk : GW p l e R s m args below meth c D A nL 0 0 Q (wM Y q u1) (pc + 3) lv (.int r :: rest)) : GW p l e R s m args below meth c D A nL 0 0 Q (wM Y q u) pc lv (.int a1 :: .ref (q 0) :: rest) := g_callVi (ws := wM Y q u) (n := 1) (q0 := 0) (As := [.int a1]) F [] [] (kX7_skip hX) (List.append_nil _).symm (List.append_nil _) (by unfold mOK; decide +kernel) rfl rfl cd_yX7_skip hml im_yX7_skip se_yX7_skip in_X7 rfl rfl hR ⟨Nat.zero_le _, Nat.zero_le _⟩ rfl hcat hd kk
theorem dX7_order_0 : decode cX7_order 0 = .ok (.iload_n 1, 1) := by decide +kernel
theorem dX7_order_1 : decode cX7_order 1 = .ok (.iconst 3, 1) := by decide +kernel
theorem dX7_order_2 : decode cX7_order 2 = .ok (.if_icmp .lt 10, 3) := by decide +kernel
theorem dX7_order_5 : decode cX7_order 5 = .ok (.iload_n 2, 1) := by decide +kernel
theorem dX7_order_6 : decode cX7_order 6 = .ok (.invokestatic 111, 3) := by decide +kernel
theorem dX7_order_9 : decode cX7_order 9 = .ok (.goto 8, 3) := by decide +kernel
theorem dX7_order_12 : decode cX7_order 12 = .ok (.aload_n 0, 1) := by decide +kernel
theorem dX7_order_13 : decode cX7_order 13 = .ok (.iload_n 2, 1) := by decide +kernel
theorem dX7_order_14 : decode cX7_order 14 = .ok (.invokevirtual 143, 3) := by decide +kernel
theorem dX7_order_17 : decode cX7_order 17 = .ok (.istore 4, 2) := by decide +kernel
theorem dX7_order_19 : decode cX7_order 19 = .ok (.iload_n 1, 1) := by decide +kernel
theorem dX7_order_20 : decode cX7_order 20 = .ok (.iconst 3, 1) := by decide +kernel
theorem dX7_order_21 : decode cX7_order 21 = .ok (.if_icmp .ge 25, 3) := by decide +kernel
theorem dX7_order_24 : decode cX7_order 24 = .ok (.iload_n 1, 1) := by decide +kernel
theorem dX7_order_25 : decode cX7_order 25 = .ok (.iconst 1, 1) := by decide +kernel
theorem dX7_order_26 : decode cX7_order 26 = .ok (.if_icmp .ne 13, 3) := by decide +kernel
theorem dX7_order_29 : decode cX7_order 29 = .ok (.iload_n 3, 1) := by decide +kernel
theorem dX7_order_30 : decode cX7_order 30 = .ok (.invokestatic 133, 3) := by decide +kernel
theorem dX7_order_33 : decode cX7_order 33 = .ok (.ifCond .eq 17, 3) := by decide +kernel
theorem dX7_order_36 : decode cX7_order 36 = .ok (.goto 10, 3) := by decide +kernel
theorem dX7_order_39 : decode cX7_order 39 = .ok (.iload_n 3, 1) := by decide +kernel
theorem dX7_order_40 : decode cX7_order 40 = .ok (.invokestatic 103, 3) := by decide +kernel
theorem dX7_order_43 : decode cX7_order 43 = .ok (.ifCond .eq 7, 3) := by decide +kernel
theorem dX7_order_46 : decode cX7_order 46 = .ok (.iconst 1, 1) := by decide +kernel
theorem dX7_order_47 : decode cX7_order 47 = .ok (.goto 4, 3) := by decide +kernel
theorem dX7_order_50 : decode cX7_order 50 = .ok (.iconst 0, 1) := by decide +kernel
theorem dX7_order_51 : decode cX7_order 51 = .ok (.istore 5, 2) := by decide +kernel
theorem dX7_order_53 : decode cX7_order 53 = .ok (.aload_n 0, 1) := by decide +kernel
theorem dX7_order_54 : decode cX7_order 54 = .ok (.iload_n 1, 1) := by decide +kernel
theorem dX7_order_55 : decode cX7_order 55 = .ok (.iconst 0, 1) := by decide +kernel
theorem dX7_order_56 : decode cX7_order 56 = .ok (.iconst 4, 1) := by decide +kernel
theorem dX7_order_57 : decode cX7_order 57 = .ok (.invokestatic 90, 3) := by decide +kernel
theorem dX7_order_60 : decode cX7_order 60 = .ok (.ifCond .ne 7, 3) := by decide +kernel
theorem dX7_order_63 : decode cX7_order 63 = .ok (.iconst 1, 1) := by decide +kernel
theorem dX7_order_64 : decode cX7_order 64 = .ok (.goto 31, 3) := by decide +kernel
theorem dX7_order_67 : decode cX7_order 67 = .ok (.iload 4, 2) := by decide +kernel
theorem dX7_order_69 : decode cX7_order 69 = .ok (.ifCond .eq 8, 3) := by decide +kernel
theorem dX7_order_72 : decode cX7_order 72 = .ok (.iload 5, 2) := by decide +kernel
theorem dX7_order_74 : decode cX7_order 74 = .ok (.ifCond .ne 7, 3) := by decide +kernel
theorem dX7_order_77 : decode cX7_order 77 = .ok (.iconst 2, 1) := by decide +kernel
theorem dX7_order_78 : decode cX7_order 78 = .ok (.goto 17, 3) := by decide +kernel
theorem dX7_order_81 : decode cX7_order 81 = .ok (.aload_n 0, 1) := by decide +kernel
theorem dX7_order_82 : decode cX7_order 82 = .ok (.getfield 97, 3) := by decide +kernel
theorem dX7_order_85 : decode cX7_order 85 = .ok (.bipush 20, 2) := by decide +kernel
theorem dX7_order_87 : decode cX7_order 87 = .ok (.if_icmp .ne 7, 3) := by decide +kernel
theorem dX7_order_90 : decode cX7_order 90 = .ok (.iconst 3, 1) := by decide +kernel
theorem dX7_order_91 : decode cX7_order 91 = .ok (.goto 4, 3) := by decide +kernel
theorem dX7_order_94 : decode cX7_order 94 = .ok (.iconst 0, 1) := by decide +kernel
theorem dX7_order_95 : decode cX7_order 95 = .ok (.putfield 87, 3) := by decide +kernel
theorem dX7_order_98 : decode cX7_order 98 = .ok (.aload_n 0, 1) := by decide +kernel
theorem dX7_order_99 : decode cX7_order 99 = .ok (.getfield 87, 3) := by decide +kernel
theorem dX7_order_102 : decode cX7_order 102 = .ok (.ifCond .le 5, 3) := by decide +kernel
theorem dX7_order_105 : decode cX7_order 105 = .ok (.iconst 0, 1) := by decide +kernel
theorem dX7_order_106 : decode cX7_order 106 = .ok (.ireturn, 1) := by decide +kernel
theorem dX7_order_107 : decode cX7_order 107 = .ok (.aload_n 0, 1) := by decide +kernel
theorem dX7_order_108 : decode cX7_order 108 = .ok (.getfield 75, 3) := by decide +kernel
theorem dX7_order_111 : decode cX7_order 111 = .ok (.aload_n 0, 1) := by decide +kernel
theorem dX7_order_112 : decode cX7_order 112 = .ok (.getfield 97, 3) := by decide +kernel
theorem dX7_order_115 : decode cX7_order 115 = .ok (.iload_n 1, 1) := by decide +kernel
theorem dX7_order_116 : decode cX7_order 116 = .ok (.iastore, 1) := by decide +kernel
theorem dX7_order_117 : decode cX7_order 117 = .ok (.aload_n 0, 1) := by decide +kernel
theorem dX7_order_118 : decode cX7_order 118 = .ok (.getfield 78, 3) := by decide +kernel
theorem dX7_order_121 : decode cX7_order 121 = .ok (.aload_n 0, 1) := by decide +kernel
theorem dX7_order_122 : decode cX7_order 122 = .ok (.getfield 97, 3) := by decide +kernel
theorem dX7_order_125 : decode cX7_order 125 = .ok (.iload_n 2, 1) := by decide +kernel
theorem dX7_order_126 : decode cX7_order 126 = .ok (.iastore, 1) := by decide +kernel
theorem dX7_order_127 : decode cX7_order 127 = .ok (.aload_n 0, 1) := by decide +kernel
theorem dX7_order_128 : decode cX7_order 128 = .ok (.getfield 81, 3) := by decide +kernel
theorem dX7_order_131 : decode cX7_order 131 = .ok (.aload_n 0, 1) := by decide +kernel
theorem dX7_order_132 : decode cX7_order 132 = .ok (.getfield 97, 3) := by decide +kernel
theorem dX7_order_135 : decode cX7_order 135 = .ok (.iload_n 1, 1) := by decide +kernel
theorem dX7_order_136 : decode cX7_order 136 = .ok (.iconst 3, 1) := by decide +kernel
theorem dX7_order_137 : decode cX7_order 137 = .ok (.if_icmp .lt 7, 3) := by decide +kernel
theorem dX7_order_140 : decode cX7_order 140 = .ok (.iconst 0, 1) := by decide +kernel
theorem dX7_order_141 : decode cX7_order 141 = .ok (.goto 16, 3) := by decide +kernel
theorem dX7_order_144 : decode cX7_order 144 = .ok (.iload_n 1, 1) := by decide +kernel
theorem dX7_order_145 : decode cX7_order 145 = .ok (.iconst 1, 1) := by decide +kernel
theorem dX7_order_146 : decode cX7_order 146 = .ok (.if_icmp .ne 7, 3) := by decide +kernel
theorem dX7_order_149 : decode cX7_order 149 = .ok (.iload_n 3, 1) := by decide +kernel
theorem dX7_order_150 : decode cX7_order 150 = .ok (.goto 7, 3) := by decide +kernel
theorem dX7_order_153 : decode cX7_order 153 = .ok (.iload_n 3, 1) := by decide +kernel
theorem dX7_order_154 : decode cX7_order 154 = .ok (.invokestatic 107, 3) := by decide +kernel
theorem dX7_order_157 : decode cX7_order 157 = .ok (.iastore, 1) := by decide +kernel
theorem dX7_order_158 : decode cX7_order 158 = .ok (.aload_n 0, 1) := by decide +kernel
theorem dX7_order_159 : decode cX7_order 159 = .ok (.dup, 1) := by decide +kernel
theorem dX7_order_160 : decode cX7_order 160 = .ok (.getfield 97, 3) := by decide +kernel
theorem dX7_order_163 : decode cX7_order 163 = .ok (.iconst 1, 1) := by decide +kernel
theorem dX7_order_164 : decode cX7_order 164 = .ok (.iadd, 1) := by decide +kernel
theorem dX7_order_165 : decode cX7_order 165 = .ok (.putfield 97, 3) := by decide +kernel
theorem dX7_order_168 : decode cX7_order 168 = .ok (.aload_n 0, 1) := by decide +kernel
theorem dX7_order_169 : decode cX7_order 169 = .ok (.getfield 97, 3) := by decide +kernel
theorem dX7_order_172 : decode cX7_order 172 = .ok (.ireturn, 1) := by decide +kernel
def pX7_order_b157  (y0 : Int32) (y1 : Int32) (v : St) : Option (Int32 × St) := if (y1 < 0 ∨ 20 ≤ y1.toNatClampNeg) then none else (some ((sS (sA v 20 (upd (v.1 20) y1.toNatClampNeg y0)) 6 (((sA v 20 (upd (v.1 20) y1.toNatClampNeg y0)).2 6) + 1)).2 6, sS (sA v 20 (upd (v.1 20) y1.toNatClampNeg y0)) 6 (((sA v 20 (upd (v.1 20) y1.toNatClampNeg y0)).2 6) + 1)))
def pX7_order_b95  (x1 : Int32) (x2 : Int32) (x3 : Int32) (y0 : Int32) (v : St) : Option (Int32 × St) := if ((sS v 0 y0).2 0) ≤ 0 then (if ((sS v 0 y0).2 6 < 0 ∨ 20 ≤ ((sS v 0 y0).2 6).toNatClampNeg) then none else (if ((sA (sS v 0 y0) 18 (upd ((sS v 0 y0).1 18) ((sS v 0 y0).2 6).toNatClampNeg x1)).2 6 < 0 ∨ 20 ≤ ((sA (sS v 0 y0) 18 (upd ((sS v 0 y0).1 18) ((sS v 0 y0).2 6).toNatClampNeg x1)).2 6).toNatClampNeg) then none else (if x1 < 3 then (if x1 = 1 then (pX7_order_b157 x3 ((sA (sA (sS v 0 y0) 18 (upd ((sS v 0 y0).1 18) ((sS v 0 y0).2 6).toNatClampNeg x1)) 19 (upd ((sA (sS v 0 y0) 18 (upd ((sS v 0 y0).1 18) ((sS v 0 y0).2 6).toNatClampNeg x1)).1 19) ((sA (sS v 0 y0) 18 (upd ((sS v 0 y0).1 18) ((sS v 0 y0).2 6).toNatClampNeg x1)).2 6).toNatClampNeg x2)).2 6) (sA (sA (sS v 0 y0) 18 (upd ((sS v 0 y0).1 18) ((sS v 0 y0).2 6).toNatClampNeg x1)) 19 (upd ((sA (sS v 0 y0) 18 (upd ((sS v 0 y0).1 18) ((sS v 0 y0).2 6).toNatClampNeg x1)).1 19) ((sA (sS v 0 y0) 18 (upd ((sS v 0 y0).1 18) ((sS v 0 y0).2 6).toNatClampNeg x1)).2 6).toNatClampNeg x2))) else (pX7_order_b157 (pX7_indexOf x3) ((sA (sA (sS v 0 y0) 18 (upd ((sS v 0 y0).1 18) ((sS v 0 y0).2 6).toNatClampNeg x1)) 19 (upd ((sA (sS v 0 y0) 18 (upd ((sS v 0 y0).1 18) ((sS v 0 y0).2 6).toNatClampNeg x1)).1 19) ((sA (sS v 0 y0) 18 (upd ((sS v 0 y0).1 18) ((sS v 0 y0).2 6).toNatClampNeg x1)).2 6).toNatClampNeg x2)).2 6) (sA (sA (sS v 0 y0) 18 (upd ((sS v 0 y0).1 18) ((sS v 0 y0).2 6).toNatClampNeg x1)) 19 (upd ((sA (sS v 0 y0) 18 (upd ((sS v 0 y0).1 18) ((sS v 0 y0).2 6).toNatClampNeg x1)).1 19) ((sA (sS v 0 y0) 18 (upd ((sS v 0 y0).1 18) ((sS v 0 y0).2 6).toNatClampNeg x1)).2 6).toNatClampNeg x2)))) else (pX7_order_b157 0 ((sA (sA (sS v 0 y0) 18 (upd ((sS v 0 y0).1 18) ((sS v 0 y0).2 6).toNatClampNeg x1)) 19 (upd ((sA (sS v 0 y0) 18 (upd ((sS v 0 y0).1 18) ((sS v 0 y0).2 6).toNatClampNeg x1)).1 19) ((sA (sS v 0 y0) 18 (upd ((sS v 0 y0).1 18) ((sS v 0 y0).2 6).toNatClampNeg x1)).2 6).toNatClampNeg x2)).2 6) (sA (sA (sS v 0 y0) 18 (upd ((sS v 0 y0).1 18) ((sS v 0 y0).2 6).toNatClampNeg x1)) 19 (upd ((sA (sS v 0 y0) 18 (upd ((sS v 0 y0).1 18) ((sS v 0 y0).2 6).toNatClampNeg x1)).1 19) ((sA (sS v 0 y0) 18 (upd ((sS v 0 y0).1 18) ((sS v 0 y0).2 6).toNatClampNeg x1)).2 6).toNatClampNeg x2)))))) else (some (0, sS v 0 y0))
def pX7_order_b77  (x1 : Int32) (x2 : Int32) (x3 : Int32) (v : St) : Option (Int32 × St) := pX7_order_b95 x1 x2 x3 2 v
def pX7_order_b51  (x1 : Int32) (x2 : Int32) (x3 : Int32) (x4 : Int32) (y0 : Int32) (v : St) : Option (Int32 × St) := if (pX7_in x1 0 4) = 0 then (pX7_order_b95 x1 x2 x3 1 v) else (if x4 = 0 then (pX7_order_b77 x1 x2 x3 v) else (if y0 = 0 then (pX7_order_b77 x1 x2 x3 v) else (if (v.2 6) = 20 then (pX7_order_b95 x1 x2 x3 3 v) else (pX7_order_b95 x1 x2 x3 0 v))))
def pX7_order_b46  (x1 : Int32) (x2 : Int32) (x3 : Int32) (x4 : Int32) (v : St) : Option (Int32 × St) := pX7_order_b51 x1 x2 x3 x4 1 v
def pX7_order_b50  (x1 : Int32) (x2 : Int32) (x3 : Int32) (x4 : Int32) (v : St) : Option (Int32 × St) := pX7_order_b51 x1 x2 x3 x4 0 v
def pX7_order_b17  (x1 : Int32) (x2 : Int32) (x3 : Int32) (y0 : Int32) (v : St) : Option (Int32 × St) := if 3 ≤ x1 then (pX7_order_b46 x1 x2 x3 y0 v) else (if x1 = 1 then (if (pX7_isStack x3) = 0 then (pX7_order_b50 x1 x2 x3 y0 v) else (pX7_order_b46 x1 x2 x3 y0 v)) else (if (pX7_isSlot x3) = 0 then (pX7_order_b50 x1 x2 x3 y0 v) else (pX7_order_b46 x1 x2 x3 y0 v)))
def pX7_order (a1 : Int32) (a2 : Int32) (a3 : Int32) (u : St) : Option (Int32 × St) := if a1 < 3 then (bnd (pX7_isBox a2 u) (fun r2 w3 => pX7_order_b17 a1 a2 a3 r2 w3)) else (pX7_order_b17 a1 a2 a3 (pX7_isBay a2) u)
set_option maxHeartbeats 4000000 in
set_option maxRecDepth 20000 in
theorem kX7_order {l : Launch} {D : va_G} {Y : Nat → ClassId} {q : Nat → Nat} {a1 a2 a3 : Int32} {u u1 : St} {r : Int32} (hX : pX7_order a1 a2 a3 u = some (r, u1)) : CMi l yX7_order cX7_order 6 (some .int) 2 43 D Y (wM Y q u) (wM Y q u1) [.ref (q 0), .int a1, .int a2, .int a3] r := by
  refine cm_ofi (by decide) (Nat.le_of_ble_eq_true rfl) rfl (fun p e s m args below meth c A F hr hlk => ?_)
  show GW p l e { frames := 2, cells := 0, slots := 0, locals := 43 } s m args below meth c D A 6 0 0 (MQ below (QI D (wM Y q u1) r A) args s 0 0 A) (wM Y q u) 0 [(0, .ref (q 0)), (1, .int a1), (2, .int a2), (3, .int a3)] []
  have b157 : ∀  (y0 : Int32) (y1 : Int32) (v : St), pX7_order_b157  y0 y1 v = some (r, u1) → GW p l e { frames := 2, cells := 0, slots := 0, locals := 43 } s m args below meth c D A 6 0 0 (MQ below (QI D (wM Y q u1) r A) args s 0 0 A) (wM Y q v) 157 [(0, .ref (q 0))] [.int y0, .int y1, .ref (q 21)] := by
    intro  y0 y1 v hX
    have hX : (if (y1 < 0 ∨ 20 ≤ y1.toNatClampNeg) then none else (some ((sS (sA v 20 (upd (v.1 20) y1.toNatClampNeg y0)) 6 (((sA v 20 (upd (v.1 20) y1.toNatClampNeg y0)).2 6) + 1)).2 6, sS (sA v 20 (upd (v.1 20) y1.toNatClampNeg y0)) 6 (((sA v 20 (upd (v.1 20) y1.toNatClampNeg y0)).2 6) + 1)))) = some (r, u1) := hX
    obtain ⟨hI13, hX⟩ := inb hX
    refine AS_20 F hI13 dX7_order_157 ?_
    refine g_aload_n F dX7_order_158 0 rfl rfl ?_
    refine g_dup F dX7_order_159 rfl ?_
    refine G_X7_97 F dX7_order_160 ?_
    refine g_iconst (v := 1) F dX7_order_163 (by decide) ?_
    refine g_iadd F dX7_order_164 ?_
    refine P_X7_97 F dX7_order_165 ?_
    refine g_aload_n F dX7_order_168 0 rfl rfl ?_
    refine G_X7_97 F dX7_order_169 ?_
    exact g_retC (wf := wM Y q) F hr rfl hlk dX7_order_172 hX
  have b95 : ∀  (x1 : Int32) (x2 : Int32) (x3 : Int32) (y0 : Int32) (v : St), pX7_order_b95  x1 x2 x3 y0 v = some (r, u1) → GW p l e { frames := 2, cells := 0, slots := 0, locals := 43 } s m args below meth c D A 6 0 0 (MQ below (QI D (wM Y q u1) r A) args s 0 0 A) (wM Y q v) 95 [(0, .ref (q 0)), (1, .int x1), (2, .int x2), (3, .int x3)] [.int y0, .ref (q 0)] := by
    intro  x1 x2 x3 y0 v hX
    have hX : (if ((sS v 0 y0).2 0) ≤ 0 then (if ((sS v 0 y0).2 6 < 0 ∨ 20 ≤ ((sS v 0 y0).2 6).toNatClampNeg) then none else (if ((sA (sS v 0 y0) 18 (upd ((sS v 0 y0).1 18) ((sS v 0 y0).2 6).toNatClampNeg x1)).2 6 < 0 ∨ 20 ≤ ((sA (sS v 0 y0) 18 (upd ((sS v 0 y0).1 18) ((sS v 0 y0).2 6).toNatClampNeg x1)).2 6).toNatClampNeg) then none else (if x1 < 3 then (if x1 = 1 then (pX7_order_b157 x3 ((sA (sA (sS v 0 y0) 18 (upd ((sS v 0 y0).1 18) ((sS v 0 y0).2 6).toNatClampNeg x1)) 19 (upd ((sA (sS v 0 y0) 18 (upd ((sS v 0 y0).1 18) ((sS v 0 y0).2 6).toNatClampNeg x1)).1 19) ((sA (sS v 0 y0) 18 (upd ((sS v 0 y0).1 18) ((sS v 0 y0).2 6).toNatClampNeg x1)).2 6).toNatClampNeg x2)).2 6) (sA (sA (sS v 0 y0) 18 (upd ((sS v 0 y0).1 18) ((sS v 0 y0).2 6).toNatClampNeg x1)) 19 (upd ((sA (sS v 0 y0) 18 (upd ((sS v 0 y0).1 18) ((sS v 0 y0).2 6).toNatClampNeg x1)).1 19) ((sA (sS v 0 y0) 18 (upd ((sS v 0 y0).1 18) ((sS v 0 y0).2 6).toNatClampNeg x1)).2 6).toNatClampNeg x2))) else (pX7_order_b157 (pX7_indexOf x3) ((sA (sA (sS v 0 y0) 18 (upd ((sS v 0 y0).1 18) ((sS v 0 y0).2 6).toNatClampNeg x1)) 19 (upd ((sA (sS v 0 y0) 18 (upd ((sS v 0 y0).1 18) ((sS v 0 y0).2 6).toNatClampNeg x1)).1 19) ((sA (sS v 0 y0) 18 (upd ((sS v 0 y0).1 18) ((sS v 0 y0).2 6).toNatClampNeg x1)).2 6).toNatClampNeg x2)).2 6) (sA (sA (sS v 0 y0) 18 (upd ((sS v 0 y0).1 18) ((sS v 0 y0).2 6).toNatClampNeg x1)) 19 (upd ((sA (sS v 0 y0) 18 (upd ((sS v 0 y0).1 18) ((sS v 0 y0).2 6).toNatClampNeg x1)).1 19) ((sA (sS v 0 y0) 18 (upd ((sS v 0 y0).1 18) ((sS v 0 y0).2 6).toNatClampNeg x1)).2 6).toNatClampNeg x2)))) else (pX7_order_b157 0 ((sA (sA (sS v 0 y0) 18 (upd ((sS v 0 y0).1 18) ((sS v 0 y0).2 6).toNatClampNeg x1)) 19 (upd ((sA (sS v 0 y0) 18 (upd ((sS v 0 y0).1 18) ((sS v 0 y0).2 6).toNatClampNeg x1)).1 19) ((sA (sS v 0 y0) 18 (upd ((sS v 0 y0).1 18) ((sS v 0 y0).2 6).toNatClampNeg x1)).2 6).toNatClampNeg x2)).2 6) (sA (sA (sS v 0 y0) 18 (upd ((sS v 0 y0).1 18) ((sS v 0 y0).2 6).toNatClampNeg x1)) 19 (upd ((sA (sS v 0 y0) 18 (upd ((sS v 0 y0).1 18) ((sS v 0 y0).2 6).toNatClampNeg x1)).1 19) ((sA (sS v 0 y0) 18 (upd ((sS v 0 y0).1 18) ((sS v 0 y0).2 6).toNatClampNeg x1)).2 6).toNatClampNeg x2)))))) else (some (0, sS v 0 y0))) = some (r, u1) := hX
    refine P_X7_87 F dX7_order_95 ?_
    refine g_aload_n F dX7_order_98 0 rfl rfl ?_
    refine G_X7_87 F dX7_order_99 ?_
    refine g_if_le (tgt := 107) F dX7_order_102 (by decide) (fun c8 => ?_) (fun c8 => ?_)
    · have hX := if_t hX c8
      refine g_aload_n F dX7_order_107 0 rfl rfl ?_
      refine G_X7_75 F dX7_order_108 ?_
      refine g_aload_n F dX7_order_111 0 rfl rfl ?_
      refine G_X7_97 F dX7_order_112 ?_
      refine g_iload_n F dX7_order_115 1 rfl rfl ?_
      obtain ⟨hI9, hX⟩ := inb hX
      refine AS_18 F hI9 dX7_order_116 ?_
      refine g_aload_n F dX7_order_117 0 rfl rfl ?_
      refine G_X7_78 F dX7_order_118 ?_
      refine g_aload_n F dX7_order_121 0 rfl rfl ?_
      refine G_X7_97 F dX7_order_122 ?_
      refine g_iload_n F dX7_order_125 2 rfl rfl ?_
      obtain ⟨hI10, hX⟩ := inb hX
      refine AS_19 F hI10 dX7_order_126 ?_
      refine g_aload_n F dX7_order_127 0 rfl rfl ?_
      refine G_X7_81 F dX7_order_128 ?_
      refine g_aload_n F dX7_order_131 0 rfl rfl ?_
      refine G_X7_97 F dX7_order_132 ?_
      refine g_iload_n F dX7_order_135 1 rfl rfl ?_
      refine g_iconst (v := 3) F dX7_order_136 (by decide) ?_
      refine g_icmp_lt (tgt := 144) F dX7_order_137 (by decide) (fun c11 => ?_) (fun c11 => ?_)
      · have hX := if_t hX c11
        refine g_iload_n F dX7_order_144 1 rfl rfl ?_
        refine g_iconst (v := 1) F dX7_order_145 (by decide) ?_
        refine g_icmp_ne (tgt := 153) F dX7_order_146 (by decide) (fun c12 => ?_) (fun c12 => ?_)
        · have hX := if_f hX c12
          refine g_iload_n F dX7_order_153 3 rfl rfl ?_
          refine callX7_indexOf F ml_X7_107 ⟨Nat.le_of_ble_eq_true rfl, Nat.le_of_ble_eq_true rfl⟩ (Nat.le_of_ble_eq_true rfl) dX7_order_154 ?_
          refine g_sub [0] rfl ?_
          exact b157 (pX7_indexOf x3) ((sA (sA (sS v 0 y0) 18 (upd ((sS v 0 y0).1 18) ((sS v 0 y0).2 6).toNatClampNeg x1)) 19 (upd ((sA (sS v 0 y0) 18 (upd ((sS v 0 y0).1 18) ((sS v 0 y0).2 6).toNatClampNeg x1)).1 19) ((sA (sS v 0 y0) 18 (upd ((sS v 0 y0).1 18) ((sS v 0 y0).2 6).toNatClampNeg x1)).2 6).toNatClampNeg x2)).2 6) (sA (sA (sS v 0 y0) 18 (upd ((sS v 0 y0).1 18) ((sS v 0 y0).2 6).toNatClampNeg x1)) 19 (upd ((sA (sS v 0 y0) 18 (upd ((sS v 0 y0).1 18) ((sS v 0 y0).2 6).toNatClampNeg x1)).1 19) ((sA (sS v 0 y0) 18 (upd ((sS v 0 y0).1 18) ((sS v 0 y0).2 6).toNatClampNeg x1)).2 6).toNatClampNeg x2)) hX
        · have hX := if_t hX c12
          refine g_iload_n F dX7_order_149 3 rfl rfl ?_
          refine g_goto (tgt := 157) F dX7_order_150 (by decide) ?_
          refine g_sub [0] rfl ?_
          exact b157 x3 ((sA (sA (sS v 0 y0) 18 (upd ((sS v 0 y0).1 18) ((sS v 0 y0).2 6).toNatClampNeg x1)) 19 (upd ((sA (sS v 0 y0) 18 (upd ((sS v 0 y0).1 18) ((sS v 0 y0).2 6).toNatClampNeg x1)).1 19) ((sA (sS v 0 y0) 18 (upd ((sS v 0 y0).1 18) ((sS v 0 y0).2 6).toNatClampNeg x1)).2 6).toNatClampNeg x2)).2 6) (sA (sA (sS v 0 y0) 18 (upd ((sS v 0 y0).1 18) ((sS v 0 y0).2 6).toNatClampNeg x1)) 19 (upd ((sA (sS v 0 y0) 18 (upd ((sS v 0 y0).1 18) ((sS v 0 y0).2 6).toNatClampNeg x1)).1 19) ((sA (sS v 0 y0) 18 (upd ((sS v 0 y0).1 18) ((sS v 0 y0).2 6).toNatClampNeg x1)).2 6).toNatClampNeg x2)) hX
      · have hX := if_f hX c11
        refine g_iconst (v := 0) F dX7_order_140 (by decide) ?_
        refine g_goto (tgt := 157) F dX7_order_141 (by decide) ?_
        refine g_sub [0] rfl ?_
        exact b157 0 ((sA (sA (sS v 0 y0) 18 (upd ((sS v 0 y0).1 18) ((sS v 0 y0).2 6).toNatClampNeg x1)) 19 (upd ((sA (sS v 0 y0) 18 (upd ((sS v 0 y0).1 18) ((sS v 0 y0).2 6).toNatClampNeg x1)).1 19) ((sA (sS v 0 y0) 18 (upd ((sS v 0 y0).1 18) ((sS v 0 y0).2 6).toNatClampNeg x1)).2 6).toNatClampNeg x2)).2 6) (sA (sA (sS v 0 y0) 18 (upd ((sS v 0 y0).1 18) ((sS v 0 y0).2 6).toNatClampNeg x1)) 19 (upd ((sA (sS v 0 y0) 18 (upd ((sS v 0 y0).1 18) ((sS v 0 y0).2 6).toNatClampNeg x1)).1 19) ((sA (sS v 0 y0) 18 (upd ((sS v 0 y0).1 18) ((sS v 0 y0).2 6).toNatClampNeg x1)).2 6).toNatClampNeg x2)) hX
    · have hX := if_f hX c8
      refine g_iconst (v := 0) F dX7_order_105 (by decide) ?_
      exact g_retC (wf := wM Y q) F hr rfl hlk dX7_order_106 hX
  have b77 : ∀  (x1 : Int32) (x2 : Int32) (x3 : Int32) (v : St), pX7_order_b77  x1 x2 x3 v = some (r, u1) → GW p l e { frames := 2, cells := 0, slots := 0, locals := 43 } s m args below meth c D A 6 0 0 (MQ below (QI D (wM Y q u1) r A) args s 0 0 A) (wM Y q v) 77 [(0, .ref (q 0)), (1, .int x1), (2, .int x2), (3, .int x3)] [.ref (q 0)] := by
    intro  x1 x2 x3 v hX
    have hX : (pX7_order_b95 x1 x2 x3 2 v) = some (r, u1) := hX
    refine g_iconst (v := 2) F dX7_order_77 (by decide) ?_
    refine g_goto (tgt := 95) F dX7_order_78 (by decide) ?_
    exact b95 x1 x2 x3 2 v hX
  have b51 : ∀  (x1 : Int32) (x2 : Int32) (x3 : Int32) (x4 : Int32) (y0 : Int32) (v : St), pX7_order_b51  x1 x2 x3 x4 y0 v = some (r, u1) → GW p l e { frames := 2, cells := 0, slots := 0, locals := 43 } s m args below meth c D A 6 0 0 (MQ below (QI D (wM Y q u1) r A) args s 0 0 A) (wM Y q v) 51 [(0, .ref (q 0)), (1, .int x1), (2, .int x2), (3, .int x3), (4, .int x4)] [.int y0] := by
    intro  x1 x2 x3 x4 y0 v hX
    have hX : (if (pX7_in x1 0 4) = 0 then (pX7_order_b95 x1 x2 x3 1 v) else (if x4 = 0 then (pX7_order_b77 x1 x2 x3 v) else (if y0 = 0 then (pX7_order_b77 x1 x2 x3 v) else (if (v.2 6) = 20 then (pX7_order_b95 x1 x2 x3 3 v) else (pX7_order_b95 x1 x2 x3 0 v))))) = some (r, u1) := hX
    refine g_istore (lv' := [(5, .int y0), (0, .ref (q 0)), (1, .int x1), (2, .int x2), (3, .int x3), (4, .int x4)]) F dX7_order_51 (by decide) rfl ?_
    refine g_aload_n F dX7_order_53 1 rfl rfl ?_
    refine g_iload_n F dX7_order_54 2 rfl rfl ?_
    refine g_iconst (v := 0) F dX7_order_55 (by decide) ?_
    refine g_iconst (v := 4) F dX7_order_56 (by decide) ?_
    refine callX7_in F ml_X7_90 ⟨Nat.le_of_ble_eq_true rfl, Nat.le_of_ble_eq_true rfl⟩ (Nat.le_of_ble_eq_true rfl) dX7_order_57 ?_
    refine g_if_ne (tgt := 67) F dX7_order_60 (by decide) (fun c6 => ?_) (fun c6 => ?_)
    · have hX := if_f hX c6
      refine g_iload F dX7_order_67 5 rfl ?_
      refine g_if_eq (tgt := 77) F dX7_order_69 (by decide) (fun c7 => ?_) (fun c7 => ?_)
      · have hX := if_t hX c7
        refine g_sub [1, 2, 3, 4] rfl ?_
        exact b77 x1 x2 x3 v hX
      · have hX := if_f hX c7
        refine g_iload F dX7_order_72 0 rfl ?_
        refine g_if_ne (tgt := 81) F dX7_order_74 (by decide) (fun c14 => ?_) (fun c14 => ?_)
        · have hX := if_f hX c14
          refine g_aload_n F dX7_order_81 1 rfl rfl ?_
          refine G_X7_97 F dX7_order_82 ?_
          refine g_bipush (v := 20) F dX7_order_85 (by decide) ?_
          refine g_icmp_ne (tgt := 94) F dX7_order_87 (by decide) (fun c15 => ?_) (fun c15 => ?_)
          · have hX := if_f hX c15
            refine g_iconst (v := 0) F dX7_order_94 (by decide) ?_
            refine g_sub [1, 2, 3, 4] rfl ?_
            exact b95 x1 x2 x3 0 v hX
          · have hX := if_t hX c15
            refine g_iconst (v := 3) F dX7_order_90 (by decide) ?_
            refine g_goto (tgt := 95) F dX7_order_91 (by decide) ?_
            refine g_sub [1, 2, 3, 4] rfl ?_
            exact b95 x1 x2 x3 3 v hX
        · have hX := if_t hX c14
          refine g_sub [1, 2, 3, 4] rfl ?_
          exact b77 x1 x2 x3 v hX
    · have hX := if_t hX c6
      refine g_iconst (v := 1) F dX7_order_63 (by decide) ?_
      refine g_goto (tgt := 95) F dX7_order_64 (by decide) ?_
      refine g_sub [1, 2, 3, 4] rfl ?_
      exact b95 x1 x2 x3 1 v hX
  have b46 : ∀  (x1 : Int32) (x2 : Int32) (x3 : Int32) (x4 : Int32) (v : St), pX7_order_b46  x1 x2 x3 x4 v = some (r, u1) → GW p l e { frames := 2, cells := 0, slots := 0, locals := 43 } s m args below meth c D A 6 0 0 (MQ below (QI D (wM Y q u1) r A) args s 0 0 A) (wM Y q v) 46 [(0, .ref (q 0)), (1, .int x1), (2, .int x2), (3, .int x3), (4, .int x4)] [] := by
    intro  x1 x2 x3 x4 v hX
    have hX : (pX7_order_b51 x1 x2 x3 x4 1 v) = some (r, u1) := hX
    refine g_iconst (v := 1) F dX7_order_46 (by decide) ?_
    refine g_goto (tgt := 51) F dX7_order_47 (by decide) ?_
    exact b51 x1 x2 x3 x4 1 v hX
  have b50 : ∀  (x1 : Int32) (x2 : Int32) (x3 : Int32) (x4 : Int32) (v : St), pX7_order_b50  x1 x2 x3 x4 v = some (r, u1) → GW p l e { frames := 2, cells := 0, slots := 0, locals := 43 } s m args below meth c D A 6 0 0 (MQ below (QI D (wM Y q u1) r A) args s 0 0 A) (wM Y q v) 50 [(0, .ref (q 0)), (1, .int x1), (2, .int x2), (3, .int x3), (4, .int x4)] [] := by
    intro  x1 x2 x3 x4 v hX
    have hX : (pX7_order_b51 x1 x2 x3 x4 0 v) = some (r, u1) := hX
    refine g_iconst (v := 0) F dX7_order_50 (by decide) ?_
    exact b51 x1 x2 x3 x4 0 v hX
  have b17 : ∀  (x1 : Int32) (x2 : Int32) (x3 : Int32) (y0 : Int32) (v : St), pX7_order_b17  x1 x2 x3 y0 v = some (r, u1) → GW p l e { frames := 2, cells := 0, slots := 0, locals := 43 } s m args below meth c D A 6 0 0 (MQ below (QI D (wM Y q u1) r A) args s 0 0 A) (wM Y q v) 17 [(0, .ref (q 0)), (1, .int x1), (2, .int x2), (3, .int x3)] [.int y0] := by
    intro  x1 x2 x3 y0 v hX
    have hX : (if 3 ≤ x1 then (pX7_order_b46 x1 x2 x3 y0 v) else (if x1 = 1 then (if (pX7_isStack x3) = 0 then (pX7_order_b50 x1 x2 x3 y0 v) else (pX7_order_b46 x1 x2 x3 y0 v)) else (if (pX7_isSlot x3) = 0 then (pX7_order_b50 x1 x2 x3 y0 v) else (pX7_order_b46 x1 x2 x3 y0 v)))) = some (r, u1) := hX
    refine g_istore (lv' := [(4, .int y0), (0, .ref (q 0)), (1, .int x1), (2, .int x2), (3, .int x3)]) F dX7_order_17 (by decide) rfl ?_
    refine g_iload_n F dX7_order_19 2 rfl rfl ?_
    refine g_iconst (v := 3) F dX7_order_20 (by decide) ?_
    refine g_icmp_ge (tgt := 46) F dX7_order_21 (by decide) (fun c5 => ?_) (fun c5 => ?_)
    · have hX := if_t hX c5
      refine g_sub [1, 2, 3, 4, 0] rfl ?_
      exact b46 x1 x2 x3 y0 v hX
    · have hX := if_f hX c5
      refine g_iload_n F dX7_order_24 2 rfl rfl ?_
      refine g_iconst (v := 1) F dX7_order_25 (by decide) ?_
      refine g_icmp_ne (tgt := 39) F dX7_order_26 (by decide) (fun c16 => ?_) (fun c16 => ?_)
      · have hX := if_f hX c16
        refine g_iload_n F dX7_order_39 4 rfl rfl ?_
        refine callX7_isSlot F ml_X7_103 ⟨Nat.le_of_ble_eq_true rfl, Nat.le_of_ble_eq_true rfl⟩ (Nat.le_of_ble_eq_true rfl) dX7_order_40 ?_
        refine g_if_eq (tgt := 50) F dX7_order_43 (by decide) (fun c17 => ?_) (fun c17 => ?_)
        · have hX := if_t hX c17
          refine g_sub [1, 2, 3, 4, 0] rfl ?_
          exact b50 x1 x2 x3 y0 v hX
        · have hX := if_f hX c17
          refine g_sub [1, 2, 3, 4, 0] rfl ?_
          exact b46 x1 x2 x3 y0 v hX
      · have hX := if_t hX c16
        refine g_iload_n F dX7_order_29 4 rfl rfl ?_
        refine callX7_isStack F ml_X7_133 ⟨Nat.le_of_ble_eq_true rfl, Nat.le_of_ble_eq_true rfl⟩ (Nat.le_of_ble_eq_true rfl) dX7_order_30 ?_
        refine g_if_eq (tgt := 50) F dX7_order_33 (by decide) (fun c18 => ?_) (fun c18 => ?_)
        · have hX := if_t hX c18
          refine g_sub [1, 2, 3, 4, 0] rfl ?_
          exact b50 x1 x2 x3 y0 v hX
        · have hX := if_f hX c18
          refine g_goto (tgt := 46) F dX7_order_36 (by decide) ?_
          refine g_sub [1, 2, 3, 4, 0] rfl ?_
          exact b46 x1 x2 x3 y0 v hX
  have hX : (if a1 < 3 then (bnd (pX7_isBox a2 u) (fun r2 w3 => pX7_order_b17 a1 a2 a3 r2 w3)) else (pX7_order_b17 a1 a2 a3 (pX7_isBay a2) u)) = some (r, u1) := hX
  refine g_iload_n F dX7_order_0 1 rfl rfl ?_
  refine g_iconst (v := 3) F dX7_order_1 (by decide) ?_
  refine g_icmp_lt (tgt := 12) F dX7_order_2 (by decide) (fun c1 => ?_) (fun c1 => ?_)
  · have hX := if_t hX c1
    refine g_aload_n F dX7_order_12 0 rfl rfl ?_
    refine g_iload_n F dX7_order_13 2 rfl rfl ?_
    obtain ⟨r2, w3, hc4, hX⟩ := bnd_s hX
    refine callX7_isBox F hc4 ml_X7_143 ⟨Nat.le_of_ble_eq_true rfl, Nat.le_of_ble_eq_true rfl⟩ (Nat.le_of_ble_eq_true rfl) dX7_order_14 ?_
    exact b17 a1 a2 a3 r2 w3 hX
  · have hX := if_f hX c1
    refine g_iload_n F dX7_order_5 2 rfl rfl ?_
    refine callX7_isBay F ml_X7_111 ⟨Nat.le_of_ble_eq_true rfl, Nat.le_of_ble_eq_true rfl⟩ (Nat.le_of_ble_eq_true rfl) dX7_order_6 ?_
    refine g_goto (tgt := 17) F dX7_order_9 (by decide) ?_
    exact b17 a1 a2 a3 (pX7_isBay a2) u hX
theorem callX7_order {p : Program} {l : Launch} {e : Env} {R : Room} {s : State} {m : MethodId} {args : Array Value} {below : List Frame} {meth : Method} {c : Code} {D : va_G} {Y : Nat → ClassId} {A : Nat → Prop} {cc : ByteArray} {nL : Nat} {own : String} {Q : State → Prop} {pc : Nat} {lv : List (Nat × Value)} {rest : List Value} {q : Nat → Nat} {a1 a2 a3 : Int32} {u u1 : St} {r : Int32} (F : Fx p s m args c D Y A cc nL own) (hX : pX7_order a1 a2 a3 u = some (r, u1)) {index : Nat} (hml : Cond.methodLink own index yX7_order ∈ TBL) (hR : 2 + 1 ≤ R.frames ∧ 8 + (6 + 11) + 43 ≤ R.locals) (hcat : (rest.map fun v => v.category).sum ≤ 8) (hd : decode cc pc = .ok (.invokevirtual index, 3)) (kk : GW p l e R s m args below meth c D A nL 0 0 Q (wM Y q u1) (pc + 3) lv (.int r :: rest)) : GW p l e R s m args below meth c D A nL 0 0 Q (wM Y q u) pc lv (.int a3 :: .int a2 :: .int a1 :: .ref (q 0) :: rest) := g_callVi (ws := wM Y q u) (n := 3) (q0 := 0) (As := [.int a1, .int a2, .int a3]) F [] [] (kX7_order hX) (List.append_nil _).symm (List.append_nil _) (by unfold mOK; decide +kernel) rfl rfl cd_yX7_order hml im_yX7_order se_yX7_order in_X7 rfl rfl hR ⟨Nat.zero_le _, Nat.zero_le _⟩ rfl hcat hd kk
theorem dX7_drop_0 : decode cX7_drop 0 = .ok (.aload_n 0, 1) := by decide +kernel
theorem dX7_drop_1 : decode cX7_drop 1 = .ok (.aload_n 0, 1) := by decide +kernel
theorem dX7_drop_2 : decode cX7_drop 2 = .ok (.iload_n 1, 1) := by decide +kernel
theorem dX7_drop_3 : decode cX7_drop 3 = .ok (.invokevirtual 155, 3) := by decide +kernel
theorem dX7_drop_6 : decode cX7_drop 6 = .ok (.ifCond .eq 7, 3) := by decide +kernel
theorem dX7_drop_9 : decode cX7_drop 9 = .ok (.iconst 0, 1) := by decide +kernel
theorem dX7_drop_10 : decode cX7_drop 10 = .ok (.goto 4, 3) := by decide +kernel
theorem dX7_drop_13 : decode cX7_drop 13 = .ok (.iconst 1, 1) := by decide +kernel
theorem dX7_drop_14 : decode cX7_drop 14 = .ok (.putfield 87, 3) := by decide +kernel
theorem dX7_drop_17 : decode cX7_drop 17 = .ok (.aload_n 0, 1) := by decide +kernel
theorem dX7_drop_18 : decode cX7_drop 18 = .ok (.getfield 87, 3) := by decide +kernel
theorem dX7_drop_21 : decode cX7_drop 21 = .ok (.ifCond .le 5, 3) := by decide +kernel
theorem dX7_drop_24 : decode cX7_drop 24 = .ok (.iconst 0, 1) := by decide +kernel
theorem dX7_drop_25 : decode cX7_drop 25 = .ok (.ireturn, 1) := by decide +kernel
theorem dX7_drop_26 : decode cX7_drop 26 = .ok (.aload_n 0, 1) := by decide +kernel
theorem dX7_drop_27 : decode cX7_drop 27 = .ok (.iload_n 1, 1) := by decide +kernel
theorem dX7_drop_28 : decode cX7_drop 28 = .ok (.invokevirtual 158, 3) := by decide +kernel
theorem dX7_drop_31 : decode cX7_drop 31 = .ok (.aload_n 0, 1) := by decide +kernel
theorem dX7_drop_32 : decode cX7_drop 32 = .ok (.getfield 97, 3) := by decide +kernel
theorem dX7_drop_35 : decode cX7_drop 35 = .ok (.ireturn, 1) := by decide +kernel
def pX7_drop_b14  (x1 : Int32) (y0 : Int32) (v : St) : Option (Int32 × St) := if ((sS v 0 y0).2 0) ≤ 0 then (bnd (pX7_removes x1 (sS v 0 y0)) (fun r6 w7 => some (w7.2 6, w7))) else (some (0, sS v 0 y0))
def pX7_drop (a1 : Int32) (u : St) : Option (Int32 × St) := bnd (pX7_isOrder a1 u) (fun r1 w2 => if r1 = 0 then (pX7_drop_b14 a1 1 w2) else (pX7_drop_b14 a1 0 w2))
set_option maxHeartbeats 4000000 in
set_option maxRecDepth 20000 in
theorem kX7_drop {l : Launch} {D : va_G} {Y : Nat → ClassId} {q : Nat → Nat} {a1 : Int32} {u u1 : St} {r : Int32} (hX : pX7_drop a1 u = some (r, u1)) : CMi l yX7_drop cX7_drop 2 (some .int) 2 43 D Y (wM Y q u) (wM Y q u1) [.ref (q 0), .int a1] r := by
  refine cm_ofi (by decide) (Nat.le_of_ble_eq_true rfl) rfl (fun p e s m args below meth c A F hr hlk => ?_)
  show GW p l e { frames := 2, cells := 0, slots := 0, locals := 43 } s m args below meth c D A 2 0 0 (MQ below (QI D (wM Y q u1) r A) args s 0 0 A) (wM Y q u) 0 [(0, .ref (q 0)), (1, .int a1)] []
  have b14 : ∀  (x1 : Int32) (y0 : Int32) (v : St), pX7_drop_b14  x1 y0 v = some (r, u1) → GW p l e { frames := 2, cells := 0, slots := 0, locals := 43 } s m args below meth c D A 2 0 0 (MQ below (QI D (wM Y q u1) r A) args s 0 0 A) (wM Y q v) 14 [(0, .ref (q 0)), (1, .int x1)] [.int y0, .ref (q 0)] := by
    intro  x1 y0 v hX
    have hX : (if ((sS v 0 y0).2 0) ≤ 0 then (bnd (pX7_removes x1 (sS v 0 y0)) (fun r6 w7 => some (w7.2 6, w7))) else (some (0, sS v 0 y0))) = some (r, u1) := hX
    refine P_X7_87 F dX7_drop_14 ?_
    refine g_aload_n F dX7_drop_17 0 rfl rfl ?_
    refine G_X7_87 F dX7_drop_18 ?_
    refine g_if_le (tgt := 26) F dX7_drop_21 (by decide) (fun c5 => ?_) (fun c5 => ?_)
    · have hX := if_t hX c5
      refine g_aload_n F dX7_drop_26 0 rfl rfl ?_
      refine g_iload_n F dX7_drop_27 1 rfl rfl ?_
      obtain ⟨r6, w7, hc8, hX⟩ := bnd_s hX
      refine callX7_removes F hc8 ml_X7_158 ⟨Nat.le_of_ble_eq_true rfl, Nat.le_of_ble_eq_true rfl⟩ (Nat.le_of_ble_eq_true rfl) dX7_drop_28 ?_
      refine g_aload_n F dX7_drop_31 0 rfl rfl ?_
      refine G_X7_97 F dX7_drop_32 ?_
      exact g_retC (wf := wM Y q) F hr rfl hlk dX7_drop_35 hX
    · have hX := if_f hX c5
      refine g_iconst (v := 0) F dX7_drop_24 (by decide) ?_
      exact g_retC (wf := wM Y q) F hr rfl hlk dX7_drop_25 hX
  have hX : (bnd (pX7_isOrder a1 u) (fun r1 w2 => if r1 = 0 then (pX7_drop_b14 a1 1 w2) else (pX7_drop_b14 a1 0 w2))) = some (r, u1) := hX
  refine g_aload_n F dX7_drop_0 0 rfl rfl ?_
  refine g_aload_n F dX7_drop_1 0 rfl rfl ?_
  refine g_iload_n F dX7_drop_2 1 rfl rfl ?_
  obtain ⟨r1, w2, hc3, hX⟩ := bnd_s hX
  refine callX7_isOrder F hc3 ml_X7_155 ⟨Nat.le_of_ble_eq_true rfl, Nat.le_of_ble_eq_true rfl⟩ (Nat.le_of_ble_eq_true rfl) dX7_drop_3 ?_
  refine g_if_eq (tgt := 13) F dX7_drop_6 (by decide) (fun c4 => ?_) (fun c4 => ?_)
  · have hX := if_t hX c4
    refine g_iconst (v := 1) F dX7_drop_13 (by decide) ?_
    exact b14 a1 1 w2 hX
  · have hX := if_f hX c4
    refine g_iconst (v := 0) F dX7_drop_9 (by decide) ?_
    refine g_goto (tgt := 14) F dX7_drop_10 (by decide) ?_
    exact b14 a1 0 w2 hX
theorem callX7_drop {p : Program} {l : Launch} {e : Env} {R : Room} {s : State} {m : MethodId} {args : Array Value} {below : List Frame} {meth : Method} {c : Code} {D : va_G} {Y : Nat → ClassId} {A : Nat → Prop} {cc : ByteArray} {nL : Nat} {own : String} {Q : State → Prop} {pc : Nat} {lv : List (Nat × Value)} {rest : List Value} {q : Nat → Nat} {a1 : Int32} {u u1 : St} {r : Int32} (F : Fx p s m args c D Y A cc nL own) (hX : pX7_drop a1 u = some (r, u1)) {index : Nat} (hml : Cond.methodLink own index yX7_drop ∈ TBL) (hR : 2 + 1 ≤ R.frames ∧ 8 + (2 + 11) + 43 ≤ R.locals) (hcat : (rest.map fun v => v.category).sum ≤ 8) (hd : decode cc pc = .ok (.invokevirtual index, 3)) (kk : GW p l e R s m args below meth c D A nL 0 0 Q (wM Y q u1) (pc + 3) lv (.int r :: rest)) : GW p l e R s m args below meth c D A nL 0 0 Q (wM Y q u) pc lv (.int a1 :: .ref (q 0) :: rest) := g_callVi (ws := wM Y q u) (n := 1) (q0 := 0) (As := [.int a1]) F [] [] (kX7_drop hX) (List.append_nil _).symm (List.append_nil _) (by unfold mOK; decide +kernel) rfl rfl cd_yX7_drop hml im_yX7_drop se_yX7_drop in_X7 rfl rfl hR ⟨Nat.zero_le _, Nat.zero_le _⟩ rfl hcat hd kk
theorem dX7_pass_0 : decode cX7_pass 0 = .ok (.aload_n 0, 1) := by decide +kernel
theorem dX7_pass_1 : decode cX7_pass 1 = .ok (.iload_n 1, 1) := by decide +kernel
theorem dX7_pass_2 : decode cX7_pass 2 = .ok (.iconst 1, 1) := by decide +kernel
theorem dX7_pass_3 : decode cX7_pass 3 = .ok (.bipush 24, 2) := by decide +kernel
theorem dX7_pass_5 : decode cX7_pass 5 = .ok (.invokestatic 90, 3) := by decide +kernel
theorem dX7_pass_8 : decode cX7_pass 8 = .ok (.ifCond .ne 7, 3) := by decide +kernel
theorem dX7_pass_11 : decode cX7_pass 11 = .ok (.iconst 1, 1) := by decide +kernel
theorem dX7_pass_12 : decode cX7_pass 12 = .ok (.goto 20, 3) := by decide +kernel
theorem dX7_pass_15 : decode cX7_pass 15 = .ok (.aload_n 0, 1) := by decide +kernel
theorem dX7_pass_16 : decode cX7_pass 16 = .ok (.getfield 114, 3) := by decide +kernel
theorem dX7_pass_19 : decode cX7_pass 19 = .ok (.iload_n 1, 1) := by decide +kernel
theorem dX7_pass_20 : decode cX7_pass 20 = .ok (.iadd, 1) := by decide +kernel
theorem dX7_pass_21 : decode cX7_pass 21 = .ok (.sipush 1000, 3) := by decide +kernel
theorem dX7_pass_24 : decode cX7_pass 24 = .ok (.if_icmp .le 7, 3) := by decide +kernel
theorem dX7_pass_27 : decode cX7_pass 27 = .ok (.iconst 2, 1) := by decide +kernel
theorem dX7_pass_28 : decode cX7_pass 28 = .ok (.goto 4, 3) := by decide +kernel
theorem dX7_pass_31 : decode cX7_pass 31 = .ok (.iconst 0, 1) := by decide +kernel
theorem dX7_pass_32 : decode cX7_pass 32 = .ok (.putfield 87, 3) := by decide +kernel
theorem dX7_pass_35 : decode cX7_pass 35 = .ok (.iconst 0, 1) := by decide +kernel
theorem dX7_pass_36 : decode cX7_pass 36 = .ok (.istore_n 2, 1) := by decide +kernel
theorem dX7_pass_37 : decode cX7_pass 37 = .ok (.iconst 0, 1) := by decide +kernel
theorem dX7_pass_38 : decode cX7_pass 38 = .ok (.istore_n 3, 1) := by decide +kernel
theorem dX7_pass_39 : decode cX7_pass 39 = .ok (.iload_n 3, 1) := by decide +kernel
theorem dX7_pass_40 : decode cX7_pass 40 = .ok (.iload_n 1, 1) := by decide +kernel
theorem dX7_pass_41 : decode cX7_pass 41 = .ok (.if_icmp .ge 109, 3) := by decide +kernel
theorem dX7_pass_44 : decode cX7_pass 44 = .ok (.aload_n 0, 1) := by decide +kernel
theorem dX7_pass_45 : decode cX7_pass 45 = .ok (.getfield 87, 3) := by decide +kernel
theorem dX7_pass_48 : decode cX7_pass 48 = .ok (.ifCond .ne 102, 3) := by decide +kernel
theorem dX7_pass_51 : decode cX7_pass 51 = .ok (.iload_n 2, 1) := by decide +kernel
theorem dX7_pass_52 : decode cX7_pass 52 = .ok (.aload_n 0, 1) := by decide +kernel
theorem dX7_pass_53 : decode cX7_pass 53 = .ok (.iconst 0, 1) := by decide +kernel
theorem dX7_pass_54 : decode cX7_pass 54 = .ok (.invokevirtual 195, 3) := by decide +kernel
theorem dX7_pass_57 : decode cX7_pass 57 = .ok (.iadd, 1) := by decide +kernel
theorem dX7_pass_58 : decode cX7_pass 58 = .ok (.istore_n 2, 1) := by decide +kernel
theorem dX7_pass_59 : decode cX7_pass 59 = .ok (.iload_n 2, 1) := by decide +kernel
theorem dX7_pass_60 : decode cX7_pass 60 = .ok (.aload_n 0, 1) := by decide +kernel
theorem dX7_pass_61 : decode cX7_pass 61 = .ok (.iconst 1, 1) := by decide +kernel
theorem dX7_pass_62 : decode cX7_pass 62 = .ok (.invokevirtual 195, 3) := by decide +kernel
theorem dX7_pass_65 : decode cX7_pass 65 = .ok (.iadd, 1) := by decide +kernel
theorem dX7_pass_66 : decode cX7_pass 66 = .ok (.istore_n 2, 1) := by decide +kernel
theorem dX7_pass_67 : decode cX7_pass 67 = .ok (.aload_n 0, 1) := by decide +kernel
theorem dX7_pass_68 : decode cX7_pass 68 = .ok (.dup, 1) := by decide +kernel
theorem dX7_pass_69 : decode cX7_pass 69 = .ok (.getfield 186, 3) := by decide +kernel
theorem dX7_pass_72 : decode cX7_pass 72 = .ok (.bipush 25, 2) := by decide +kernel
theorem dX7_pass_74 : decode cX7_pass 74 = .ok (.iadd, 1) := by decide +kernel
theorem dX7_pass_75 : decode cX7_pass 75 = .ok (.putfield 186, 3) := by decide +kernel
theorem dX7_pass_78 : decode cX7_pass 78 = .ok (.iconst 0, 1) := by decide +kernel
theorem dX7_pass_79 : decode cX7_pass 79 = .ok (.istore 4, 2) := by decide +kernel
theorem dX7_pass_81 : decode cX7_pass 81 = .ok (.iload 4, 2) := by decide +kernel
theorem dX7_pass_83 : decode cX7_pass 83 = .ok (.aload_n 0, 1) := by decide +kernel
theorem dX7_pass_84 : decode cX7_pass 84 = .ok (.getfield 94, 3) := by decide +kernel
theorem dX7_pass_87 : decode cX7_pass 87 = .ok (.if_icmp .ge 47, 3) := by decide +kernel
theorem dX7_pass_90 : decode cX7_pass 90 = .ok (.aload_n 0, 1) := by decide +kernel
theorem dX7_pass_91 : decode cX7_pass 91 = .ok (.dup, 1) := by decide +kernel
theorem dX7_pass_92 : decode cX7_pass 92 = .ok (.getfield 186, 3) := by decide +kernel
theorem dX7_pass_95 : decode cX7_pass 95 = .ok (.aload_n 0, 1) := by decide +kernel
theorem dX7_pass_96 : decode cX7_pass 96 = .ok (.getfield 51, 3) := by decide +kernel
theorem dX7_pass_99 : decode cX7_pass 99 = .ok (.iload 4, 2) := by decide +kernel
theorem dX7_pass_101 : decode cX7_pass 101 = .ok (.iaload, 1) := by decide +kernel
theorem dX7_pass_102 : decode cX7_pass 102 = .ok (.ifCond .ne 21, 3) := by decide +kernel
theorem dX7_pass_105 : decode cX7_pass 105 = .ok (.aload_n 0, 1) := by decide +kernel
theorem dX7_pass_106 : decode cX7_pass 106 = .ok (.aload_n 0, 1) := by decide +kernel
theorem dX7_pass_107 : decode cX7_pass 107 = .ok (.getfield 42, 3) := by decide +kernel
theorem dX7_pass_110 : decode cX7_pass 110 = .ok (.iload 4, 2) := by decide +kernel
theorem dX7_pass_112 : decode cX7_pass 112 = .ok (.iaload, 1) := by decide +kernel
theorem dX7_pass_113 : decode cX7_pass 113 = .ok (.invokevirtual 149, 3) := by decide +kernel
theorem dX7_pass_116 : decode cX7_pass 116 = .ok (.ifCond .ne 7, 3) := by decide +kernel
theorem dX7_pass_119 : decode cX7_pass 119 = .ok (.iconst 1, 1) := by decide +kernel
theorem dX7_pass_120 : decode cX7_pass 120 = .ok (.goto 4, 3) := by decide +kernel
theorem dX7_pass_123 : decode cX7_pass 123 = .ok (.iconst 0, 1) := by decide +kernel
theorem dX7_pass_124 : decode cX7_pass 124 = .ok (.iadd, 1) := by decide +kernel
theorem dX7_pass_125 : decode cX7_pass 125 = .ok (.putfield 186, 3) := by decide +kernel
theorem dX7_pass_128 : decode cX7_pass 128 = .ok (.iinc 4 1, 3) := by decide +kernel
theorem dX7_pass_131 : decode cX7_pass 131 = .ok (.goto (-50), 3) := by decide +kernel
theorem dX7_pass_134 : decode cX7_pass 134 = .ok (.aload_n 0, 1) := by decide +kernel
theorem dX7_pass_135 : decode cX7_pass 135 = .ok (.dup, 1) := by decide +kernel
theorem dX7_pass_136 : decode cX7_pass 136 = .ok (.getfield 114, 3) := by decide +kernel
theorem dX7_pass_139 : decode cX7_pass 139 = .ok (.iconst 1, 1) := by decide +kernel
theorem dX7_pass_140 : decode cX7_pass 140 = .ok (.iadd, 1) := by decide +kernel
theorem dX7_pass_141 : decode cX7_pass 141 = .ok (.putfield 114, 3) := by decide +kernel
theorem dX7_pass_144 : decode cX7_pass 144 = .ok (.iinc 3 1, 3) := by decide +kernel
theorem dX7_pass_147 : decode cX7_pass 147 = .ok (.goto (-108), 3) := by decide +kernel
theorem dX7_pass_150 : decode cX7_pass 150 = .ok (.iload_n 2, 1) := by decide +kernel
theorem dX7_pass_151 : decode cX7_pass 151 = .ok (.ireturn, 1) := by decide +kernel
def pX7_pass_b150  (x2 : Int32) (v : St) : Option (Int32 × St) := some (x2, v)
def pX7_pass_b124 (K39 : Int32 → Int32 → Int32 → St → Option (Int32 × St)) (K81 : Int32 → Int32 → Int32 → Int32 → St → Option (Int32 × St)) (x1 : Int32) (x2 : Int32) (x3 : Int32) (x4 : Int32) (y0 : Int32) (y1 : Int32) (v : St) : Option (Int32 × St) := K81 x1 x2 x3 (x4 + 1) (sS v 8 (y1 + y0))
def pX7_pass_b123 (K39 : Int32 → Int32 → Int32 → St → Option (Int32 × St)) (K81 : Int32 → Int32 → Int32 → Int32 → St → Option (Int32 × St)) (x1 : Int32) (x2 : Int32) (x3 : Int32) (x4 : Int32) (y0 : Int32) (v : St) : Option (Int32 × St) := pX7_pass_b124 K39 K81 x1 x2 x3 x4 0 y0 v
def pX7_pass_b81 (K39 : Int32 → Int32 → Int32 → St → Option (Int32 × St)) (n : Nat) : Int32 → Int32 → Int32 → Int32 → St → Option (Int32 × St) := Nat.rec (fun _ _ _ _ _ => none) (fun _ K81 x1 x2 x3 x4 v => if (v.2 4) ≤ x4 then (K39 x1 x2 (x3 + 1) (sS v 7 ((v.2 7) + 1))) else (if (x4 < 0 ∨ 60 ≤ x4.toNatClampNeg) then none else (if (v.1 10 x4.toNatClampNeg) = 0 then (if (x4 < 0 ∨ 60 ≤ x4.toNatClampNeg) then none else (bnd (pX7_isAhead (v.1 7 x4.toNatClampNeg) v) (fun r15 w16 => if r15 = 0 then (pX7_pass_b124 K39 K81 x1 x2 x3 x4 1 (v.2 8) w16) else (pX7_pass_b123 K39 K81 x1 x2 x3 x4 (v.2 8) w16)))) else (pX7_pass_b123 K39 K81 x1 x2 x3 x4 (v.2 8) v)))) n
def pX7_pass_b39  (n : Nat) : Int32 → Int32 → Int32 → St → Option (Int32 × St) := Nat.rec (fun _ _ _ _ => none) (fun _ K39 x1 x2 x3 v => if x1 ≤ x3 then (pX7_pass_b150 x2 v) else (if (v.2 0) = 0 then (bnd (pX7_liftsOf 0 v) (fun r5 w6 => bnd (pX7_liftsOf 1 w6) (fun r8 w9 => pX7_pass_b81 K39 100 x1 ((x2 + r5) + r8) x3 0 (sS w9 8 ((w9.2 8) + 25))))) else (pX7_pass_b150 x2 v))) n
def pX7_pass_b32  (x1 : Int32) (y0 : Int32) (v : St) : Option (Int32 × St) := pX7_pass_b39 100 x1 0 0 (sS v 0 y0)
def pX7_pass (a1 : Int32) (u : St) : Option (Int32 × St) := if (pX7_in a1 1 24) = 0 then (pX7_pass_b32 a1 1 u) else (if ((u.2 7) + a1) ≤ 1000 then (pX7_pass_b32 a1 0 u) else (pX7_pass_b32 a1 2 u))
set_option maxHeartbeats 4000000 in
set_option maxRecDepth 20000 in
theorem kX7_pass {l : Launch} {D : va_G} {Y : Nat → ClassId} {q : Nat → Nat} {a1 : Int32} {u u1 : St} {r : Int32} (hX : pX7_pass a1 u = some (r, u1)) : CMi l yX7_pass cX7_pass 5 (some .int) 6 143 D Y (wM Y q u) (wM Y q u1) [.ref (q 0), .int a1] r := by
  refine cm_ofi (by decide) (Nat.le_of_ble_eq_true rfl) rfl (fun p e s m args below meth c A F hr hlk => ?_)
  show GW p l e { frames := 6, cells := 0, slots := 0, locals := 143 } s m args below meth c D A 5 0 0 (MQ below (QI D (wM Y q u1) r A) args s 0 0 A) (wM Y q u) 0 [(0, .ref (q 0)), (1, .int a1)] []
  have b150 : ∀  (x2 : Int32) (v : St), pX7_pass_b150  x2 v = some (r, u1) → GW p l e { frames := 6, cells := 0, slots := 0, locals := 143 } s m args below meth c D A 5 0 0 (MQ below (QI D (wM Y q u1) r A) args s 0 0 A) (wM Y q v) 150 [(2, .int x2)] [] := by
    intro  x2 v hX
    have hX : (some (x2, v)) = some (r, u1) := hX
    refine g_iload_n F dX7_pass_150 0 rfl rfl ?_
    exact g_retC (wf := wM Y q) F hr rfl hlk dX7_pass_151 hX
  have b124 : ∀ (K39 : Int32 → Int32 → Int32 → St → Option (Int32 × St)) (hK39 : ∀ (x1 : Int32) (x2 : Int32) (x3 : Int32) (v : St), K39 x1 x2 x3 v = some (r, u1) → GW p l e { frames := 6, cells := 0, slots := 0, locals := 143 } s m args below meth c D A 5 0 0 (MQ below (QI D (wM Y q u1) r A) args s 0 0 A) (wM Y q v) 39 [(0, .ref (q 0)), (1, .int x1), (2, .int x2), (3, .int x3)] []) (K81 : Int32 → Int32 → Int32 → Int32 → St → Option (Int32 × St)) (hK81 : ∀ (x1 : Int32) (x2 : Int32) (x3 : Int32) (x4 : Int32) (v : St), K81 x1 x2 x3 x4 v = some (r, u1) → GW p l e { frames := 6, cells := 0, slots := 0, locals := 143 } s m args below meth c D A 5 0 0 (MQ below (QI D (wM Y q u1) r A) args s 0 0 A) (wM Y q v) 81 [(0, .ref (q 0)), (1, .int x1), (2, .int x2), (3, .int x3), (4, .int x4)] []) (x1 : Int32) (x2 : Int32) (x3 : Int32) (x4 : Int32) (y0 : Int32) (y1 : Int32) (v : St), pX7_pass_b124 K39 K81 x1 x2 x3 x4 y0 y1 v = some (r, u1) → GW p l e { frames := 6, cells := 0, slots := 0, locals := 143 } s m args below meth c D A 5 0 0 (MQ below (QI D (wM Y q u1) r A) args s 0 0 A) (wM Y q v) 124 [(0, .ref (q 0)), (1, .int x1), (2, .int x2), (3, .int x3), (4, .int x4)] [.int y0, .int y1, .ref (q 0)] := by
    intro K39 hK39 K81 hK81 x1 x2 x3 x4 y0 y1 v hX
    have hX : (K81 x1 x2 x3 (x4 + 1) (sS v 8 (y1 + y0))) = some (r, u1) := hX
    refine g_iadd F dX7_pass_124 ?_
    refine P_X7_186 F dX7_pass_125 ?_
    refine g_iinc (v := x4 + 1) (lv' := [(4, .int (x4 + 1)), (0, .ref (q 0)), (1, .int x1), (2, .int x2), (3, .int x3)]) F dX7_pass_128 4 rfl rfl (by decide) rfl ?_
    refine g_goto (tgt := 81) F dX7_pass_131 (by decide) ?_
    refine g_sub [1, 2, 3, 4, 0] rfl ?_
    exact hK81 x1 x2 x3 (x4 + 1) (sS v 8 (y1 + y0)) hX
  have b123 : ∀ (K39 : Int32 → Int32 → Int32 → St → Option (Int32 × St)) (hK39 : ∀ (x1 : Int32) (x2 : Int32) (x3 : Int32) (v : St), K39 x1 x2 x3 v = some (r, u1) → GW p l e { frames := 6, cells := 0, slots := 0, locals := 143 } s m args below meth c D A 5 0 0 (MQ below (QI D (wM Y q u1) r A) args s 0 0 A) (wM Y q v) 39 [(0, .ref (q 0)), (1, .int x1), (2, .int x2), (3, .int x3)] []) (K81 : Int32 → Int32 → Int32 → Int32 → St → Option (Int32 × St)) (hK81 : ∀ (x1 : Int32) (x2 : Int32) (x3 : Int32) (x4 : Int32) (v : St), K81 x1 x2 x3 x4 v = some (r, u1) → GW p l e { frames := 6, cells := 0, slots := 0, locals := 143 } s m args below meth c D A 5 0 0 (MQ below (QI D (wM Y q u1) r A) args s 0 0 A) (wM Y q v) 81 [(0, .ref (q 0)), (1, .int x1), (2, .int x2), (3, .int x3), (4, .int x4)] []) (x1 : Int32) (x2 : Int32) (x3 : Int32) (x4 : Int32) (y0 : Int32) (v : St), pX7_pass_b123 K39 K81 x1 x2 x3 x4 y0 v = some (r, u1) → GW p l e { frames := 6, cells := 0, slots := 0, locals := 143 } s m args below meth c D A 5 0 0 (MQ below (QI D (wM Y q u1) r A) args s 0 0 A) (wM Y q v) 123 [(0, .ref (q 0)), (1, .int x1), (2, .int x2), (3, .int x3), (4, .int x4)] [.int y0, .ref (q 0)] := by
    intro K39 hK39 K81 hK81 x1 x2 x3 x4 y0 v hX
    have hX : (pX7_pass_b124 K39 K81 x1 x2 x3 x4 0 y0 v) = some (r, u1) := hX
    refine g_iconst (v := 0) F dX7_pass_123 (by decide) ?_
    exact b124 K39 hK39 K81 hK81 x1 x2 x3 x4 0 y0 v hX
  have b81 : ∀ (K39 : Int32 → Int32 → Int32 → St → Option (Int32 × St)) (hK39 : ∀ (x1 : Int32) (x2 : Int32) (x3 : Int32) (v : St), K39 x1 x2 x3 v = some (r, u1) → GW p l e { frames := 6, cells := 0, slots := 0, locals := 143 } s m args below meth c D A 5 0 0 (MQ below (QI D (wM Y q u1) r A) args s 0 0 A) (wM Y q v) 39 [(0, .ref (q 0)), (1, .int x1), (2, .int x2), (3, .int x3)] []) (n : Nat) (x1 : Int32) (x2 : Int32) (x3 : Int32) (x4 : Int32) (v : St), pX7_pass_b81 K39 n x1 x2 x3 x4 v = some (r, u1) → GW p l e { frames := 6, cells := 0, slots := 0, locals := 143 } s m args below meth c D A 5 0 0 (MQ below (QI D (wM Y q u1) r A) args s 0 0 A) (wM Y q v) 81 [(0, .ref (q 0)), (1, .int x1), (2, .int x2), (3, .int x3), (4, .int x4)] [] := by
    intro K39 hK39 n
    induction n with
    | zero => intro x1 x2 x3 x4 v hX; cases hX
    | succ n ih =>
      intro x1 x2 x3 x4 v hX
      obtain ⟨K81, eK⟩ : ∃ K : Int32 → Int32 → Int32 → Int32 → St → Option (Int32 × St), K = pX7_pass_b81 K39 n := ⟨_, rfl⟩
      have hK81 : ∀ (x1 : Int32) (x2 : Int32) (x3 : Int32) (x4 : Int32) (v : St), K81 x1 x2 x3 x4 v = some (r, u1) → GW p l e { frames := 6, cells := 0, slots := 0, locals := 143 } s m args below meth c D A 5 0 0 (MQ below (QI D (wM Y q u1) r A) args s 0 0 A) (wM Y q v) 81 [(0, .ref (q 0)), (1, .int x1), (2, .int x2), (3, .int x3), (4, .int x4)] [] := by rw [eK]; exact ih
      have hX : (if (v.2 4) ≤ x4 then (K39 x1 x2 (x3 + 1) (sS v 7 ((v.2 7) + 1))) else (if (x4 < 0 ∨ 60 ≤ x4.toNatClampNeg) then none else (if (v.1 10 x4.toNatClampNeg) = 0 then (if (x4 < 0 ∨ 60 ≤ x4.toNatClampNeg) then none else (bnd (pX7_isAhead (v.1 7 x4.toNatClampNeg) v) (fun r15 w16 => if r15 = 0 then (pX7_pass_b124 K39 K81 x1 x2 x3 x4 1 (v.2 8) w16) else (pX7_pass_b123 K39 K81 x1 x2 x3 x4 (v.2 8) w16)))) else (pX7_pass_b123 K39 K81 x1 x2 x3 x4 (v.2 8) v)))) = some (r, u1) := by rw [eK]; exact hX
      refine g_iload F dX7_pass_81 4 rfl ?_
      refine g_aload_n F dX7_pass_83 0 rfl rfl ?_
      refine G_X7_94 F dX7_pass_84 ?_
      refine g_icmp_ge (tgt := 134) F dX7_pass_87 (by decide) (fun c11 => ?_) (fun c11 => ?_)
      · have hX := if_t hX c11
        refine g_aload_n F dX7_pass_134 0 rfl rfl ?_
        refine g_dup F dX7_pass_135 rfl ?_
        refine G_X7_114 F dX7_pass_136 ?_
        refine g_iconst (v := 1) F dX7_pass_139 (by decide) ?_
        refine g_iadd F dX7_pass_140 ?_
        refine P_X7_114 F dX7_pass_141 ?_
        refine g_iinc (v := x3 + 1) (lv' := [(3, .int (x3 + 1)), (0, .ref (q 0)), (1, .int x1), (2, .int x2), (4, .int x4)]) F dX7_pass_144 3 rfl rfl (by decide) rfl ?_
        refine g_goto (tgt := 39) F dX7_pass_147 (by decide) ?_
        refine g_sub [1, 2, 3, 0] rfl ?_
        exact hK39 x1 x2 (x3 + 1) (sS v 7 ((v.2 7) + 1)) hX
      · have hX := if_f hX c11
        refine g_aload_n F dX7_pass_90 0 rfl rfl ?_
        refine g_dup F dX7_pass_91 rfl ?_
        refine G_X7_186 F dX7_pass_92 ?_
        refine g_aload_n F dX7_pass_95 0 rfl rfl ?_
        refine G_X7_51 F dX7_pass_96 ?_
        refine g_iload F dX7_pass_99 4 rfl ?_
        obtain ⟨hI12, hX⟩ := inb hX
        refine AL_10 F hI12 dX7_pass_101 ?_
        refine g_if_ne (tgt := 123) F dX7_pass_102 (by decide) (fun c13 => ?_) (fun c13 => ?_)
        · have hX := if_f hX c13
          exact b123 K39 hK39 K81 hK81 x1 x2 x3 x4 (v.2 8) v hX
        · have hX := if_t hX c13
          refine g_aload_n F dX7_pass_105 0 rfl rfl ?_
          refine g_aload_n F dX7_pass_106 0 rfl rfl ?_
          refine G_X7_42 F dX7_pass_107 ?_
          refine g_iload F dX7_pass_110 4 rfl ?_
          obtain ⟨hI14, hX⟩ := inb hX
          refine AL_7 F hI14 dX7_pass_112 ?_
          obtain ⟨r15, w16, hc17, hX⟩ := bnd_s hX
          refine callX7_isAhead F hc17 ml_X7_149 ⟨Nat.le_of_ble_eq_true rfl, Nat.le_of_ble_eq_true rfl⟩ (Nat.le_of_ble_eq_true rfl) dX7_pass_113 ?_
          refine g_if_ne (tgt := 123) F dX7_pass_116 (by decide) (fun c18 => ?_) (fun c18 => ?_)
          · have hX := if_f hX c18
            exact b123 K39 hK39 K81 hK81 x1 x2 x3 x4 (v.2 8) w16 hX
          · have hX := if_t hX c18
            refine g_iconst (v := 1) F dX7_pass_119 (by decide) ?_
            refine g_goto (tgt := 124) F dX7_pass_120 (by decide) ?_
            exact b124 K39 hK39 K81 hK81 x1 x2 x3 x4 1 (v.2 8) w16 hX
  have b39 : ∀  (n : Nat) (x1 : Int32) (x2 : Int32) (x3 : Int32) (v : St), pX7_pass_b39  n x1 x2 x3 v = some (r, u1) → GW p l e { frames := 6, cells := 0, slots := 0, locals := 143 } s m args below meth c D A 5 0 0 (MQ below (QI D (wM Y q u1) r A) args s 0 0 A) (wM Y q v) 39 [(0, .ref (q 0)), (1, .int x1), (2, .int x2), (3, .int x3)] [] := by
    intro  n
    induction n with
    | zero => intro x1 x2 x3 v hX; cases hX
    | succ n ih =>
      intro x1 x2 x3 v hX
      obtain ⟨K39, eK⟩ : ∃ K : Int32 → Int32 → Int32 → St → Option (Int32 × St), K = pX7_pass_b39  n := ⟨_, rfl⟩
      have hK39 : ∀ (x1 : Int32) (x2 : Int32) (x3 : Int32) (v : St), K39 x1 x2 x3 v = some (r, u1) → GW p l e { frames := 6, cells := 0, slots := 0, locals := 143 } s m args below meth c D A 5 0 0 (MQ below (QI D (wM Y q u1) r A) args s 0 0 A) (wM Y q v) 39 [(0, .ref (q 0)), (1, .int x1), (2, .int x2), (3, .int x3)] [] := by rw [eK]; exact ih
      have hX : (if x1 ≤ x3 then (pX7_pass_b150 x2 v) else (if (v.2 0) = 0 then (bnd (pX7_liftsOf 0 v) (fun r5 w6 => bnd (pX7_liftsOf 1 w6) (fun r8 w9 => pX7_pass_b81 K39 100 x1 ((x2 + r5) + r8) x3 0 (sS w9 8 ((w9.2 8) + 25))))) else (pX7_pass_b150 x2 v))) = some (r, u1) := by rw [eK]; exact hX
      refine g_iload_n F dX7_pass_39 3 rfl rfl ?_
      refine g_iload_n F dX7_pass_40 1 rfl rfl ?_
      refine g_icmp_ge (tgt := 150) F dX7_pass_41 (by decide) (fun c3 => ?_) (fun c3 => ?_)
      · have hX := if_t hX c3
        refine g_sub [2] rfl ?_
        exact b150 x2 v hX
      · have hX := if_f hX c3
        refine g_aload_n F dX7_pass_44 0 rfl rfl ?_
        refine G_X7_87 F dX7_pass_45 ?_
        refine g_if_ne (tgt := 150) F dX7_pass_48 (by decide) (fun c4 => ?_) (fun c4 => ?_)
        · have hX := if_f hX c4
          refine g_sub [2] rfl ?_
          exact b150 x2 v hX
        · have hX := if_t hX c4
          refine g_iload_n F dX7_pass_51 2 rfl rfl ?_
          refine g_aload_n F dX7_pass_52 0 rfl rfl ?_
          refine g_iconst (v := 0) F dX7_pass_53 (by decide) ?_
          obtain ⟨r5, w6, hc7, hX⟩ := bnd_s hX
          refine callX7_liftsOf F hc7 ml_X7_195 ⟨Nat.le_of_ble_eq_true rfl, Nat.le_of_ble_eq_true rfl⟩ (Nat.le_of_ble_eq_true rfl) dX7_pass_54 ?_
          refine g_iadd F dX7_pass_57 ?_
          refine g_istore_n (lv' := [(2, .int (x2 + r5)), (0, .ref (q 0)), (1, .int x1), (3, .int x3)]) F dX7_pass_58 rfl (by decide) rfl ?_
          refine g_iload_n F dX7_pass_59 0 rfl rfl ?_
          refine g_aload_n F dX7_pass_60 1 rfl rfl ?_
          refine g_iconst (v := 1) F dX7_pass_61 (by decide) ?_
          obtain ⟨r8, w9, hc10, hX⟩ := bnd_s hX
          refine callX7_liftsOf F hc10 ml_X7_195 ⟨Nat.le_of_ble_eq_true rfl, Nat.le_of_ble_eq_true rfl⟩ (Nat.le_of_ble_eq_true rfl) dX7_pass_62 ?_
          refine g_iadd F dX7_pass_65 ?_
          refine g_istore_n (lv' := [(2, .int ((x2 + r5) + r8)), (0, .ref (q 0)), (1, .int x1), (3, .int x3)]) F dX7_pass_66 rfl (by decide) rfl ?_
          refine g_aload_n F dX7_pass_67 1 rfl rfl ?_
          refine g_dup F dX7_pass_68 rfl ?_
          refine G_X7_186 F dX7_pass_69 ?_
          refine g_bipush (v := 25) F dX7_pass_72 (by decide) ?_
          refine g_iadd F dX7_pass_74 ?_
          refine P_X7_186 F dX7_pass_75 ?_
          refine g_iconst (v := 0) F dX7_pass_78 (by decide) ?_
          refine g_istore (lv' := [(4, .int 0), (2, .int ((x2 + r5) + r8)), (0, .ref (q 0)), (1, .int x1), (3, .int x3)]) F dX7_pass_79 (by decide) rfl ?_
          refine g_sub [2, 3, 1, 4, 0] rfl ?_
          exact b81 K39 hK39 100 x1 ((x2 + r5) + r8) x3 0 (sS w9 8 ((w9.2 8) + 25)) hX
  have b32 : ∀  (x1 : Int32) (y0 : Int32) (v : St), pX7_pass_b32  x1 y0 v = some (r, u1) → GW p l e { frames := 6, cells := 0, slots := 0, locals := 143 } s m args below meth c D A 5 0 0 (MQ below (QI D (wM Y q u1) r A) args s 0 0 A) (wM Y q v) 32 [(0, .ref (q 0)), (1, .int x1)] [.int y0, .ref (q 0)] := by
    intro  x1 y0 v hX
    have hX : (pX7_pass_b39 100 x1 0 0 (sS v 0 y0)) = some (r, u1) := hX
    refine P_X7_87 F dX7_pass_32 ?_
    refine g_iconst (v := 0) F dX7_pass_35 (by decide) ?_
    refine g_istore_n (lv' := [(2, .int 0), (0, .ref (q 0)), (1, .int x1)]) F dX7_pass_36 rfl (by decide) rfl ?_
    refine g_iconst (v := 0) F dX7_pass_37 (by decide) ?_
    refine g_istore_n (lv' := [(3, .int 0), (2, .int 0), (0, .ref (q 0)), (1, .int x1)]) F dX7_pass_38 rfl (by decide) rfl ?_
    refine g_sub [2, 3, 1, 0] rfl ?_
    exact b39 100 x1 0 0 (sS v 0 y0) hX
  have hX : (if (pX7_in a1 1 24) = 0 then (pX7_pass_b32 a1 1 u) else (if ((u.2 7) + a1) ≤ 1000 then (pX7_pass_b32 a1 0 u) else (pX7_pass_b32 a1 2 u))) = some (r, u1) := hX
  refine g_aload_n F dX7_pass_0 0 rfl rfl ?_
  refine g_iload_n F dX7_pass_1 1 rfl rfl ?_
  refine g_iconst (v := 1) F dX7_pass_2 (by decide) ?_
  refine g_bipush (v := 24) F dX7_pass_3 (by decide) ?_
  refine callX7_in F ml_X7_90 ⟨Nat.le_of_ble_eq_true rfl, Nat.le_of_ble_eq_true rfl⟩ (Nat.le_of_ble_eq_true rfl) dX7_pass_5 ?_
  refine g_if_ne (tgt := 15) F dX7_pass_8 (by decide) (fun c1 => ?_) (fun c1 => ?_)
  · have hX := if_f hX c1
    refine g_aload_n F dX7_pass_15 0 rfl rfl ?_
    refine G_X7_114 F dX7_pass_16 ?_
    refine g_iload_n F dX7_pass_19 1 rfl rfl ?_
    refine g_iadd F dX7_pass_20 ?_
    refine g_sipush (v := 1000) F dX7_pass_21 (by decide) ?_
    refine g_icmp_le (tgt := 31) F dX7_pass_24 (by decide) (fun c2 => ?_) (fun c2 => ?_)
    · have hX := if_t hX c2
      refine g_iconst (v := 0) F dX7_pass_31 (by decide) ?_
      exact b32 a1 0 u hX
    · have hX := if_f hX c2
      refine g_iconst (v := 2) F dX7_pass_27 (by decide) ?_
      refine g_goto (tgt := 32) F dX7_pass_28 (by decide) ?_
      exact b32 a1 2 u hX
  · have hX := if_t hX c1
    refine g_iconst (v := 1) F dX7_pass_11 (by decide) ?_
    refine g_goto (tgt := 32) F dX7_pass_12 (by decide) ?_
    exact b32 a1 1 u hX
theorem callX7_pass {p : Program} {l : Launch} {e : Env} {R : Room} {s : State} {m : MethodId} {args : Array Value} {below : List Frame} {meth : Method} {c : Code} {D : va_G} {Y : Nat → ClassId} {A : Nat → Prop} {cc : ByteArray} {nL : Nat} {own : String} {Q : State → Prop} {pc : Nat} {lv : List (Nat × Value)} {rest : List Value} {q : Nat → Nat} {a1 : Int32} {u u1 : St} {r : Int32} (F : Fx p s m args c D Y A cc nL own) (hX : pX7_pass a1 u = some (r, u1)) {index : Nat} (hml : Cond.methodLink own index yX7_pass ∈ TBL) (hR : 6 + 1 ≤ R.frames ∧ 8 + (5 + 11) + 143 ≤ R.locals) (hcat : (rest.map fun v => v.category).sum ≤ 8) (hd : decode cc pc = .ok (.invokevirtual index, 3)) (kk : GW p l e R s m args below meth c D A nL 0 0 Q (wM Y q u1) (pc + 3) lv (.int r :: rest)) : GW p l e R s m args below meth c D A nL 0 0 Q (wM Y q u) pc lv (.int a1 :: .ref (q 0) :: rest) := g_callVi (ws := wM Y q u) (n := 1) (q0 := 0) (As := [.int a1]) F [] [] (kX7_pass hX) (List.append_nil _).symm (List.append_nil _) (by unfold mOK; decide +kernel) rfl rfl cd_yX7_pass hml im_yX7_pass se_yX7_pass in_X7 rfl rfl hR ⟨Nat.zero_le _, Nat.zero_le _⟩ rfl hcat hd kk
theorem dX7_leave_0 : decode cX7_leave 0 = .ok (.aload_n 0, 1) := by decide +kernel
theorem dX7_leave_1 : decode cX7_leave 1 = .ok (.aload_n 0, 1) := by decide +kernel
theorem dX7_leave_2 : decode cX7_leave 2 = .ok (.invokevirtual 198, 3) := by decide +kernel
theorem dX7_leave_5 : decode cX7_leave 5 = .ok (.ifCond .ne 7, 3) := by decide +kernel
theorem dX7_leave_8 : decode cX7_leave 8 = .ok (.iconst 0, 1) := by decide +kernel
theorem dX7_leave_9 : decode cX7_leave 9 = .ok (.goto 4, 3) := by decide +kernel
theorem dX7_leave_12 : decode cX7_leave 12 = .ok (.iconst 1, 1) := by decide +kernel
theorem dX7_leave_13 : decode cX7_leave 13 = .ok (.putfield 87, 3) := by decide +kernel
theorem dX7_leave_16 : decode cX7_leave 16 = .ok (.aload_n 0, 1) := by decide +kernel
theorem dX7_leave_17 : decode cX7_leave 17 = .ok (.getfield 87, 3) := by decide +kernel
theorem dX7_leave_20 : decode cX7_leave 20 = .ok (.ifCond .le 5, 3) := by decide +kernel
theorem dX7_leave_23 : decode cX7_leave 23 = .ok (.iconst 0, 1) := by decide +kernel
theorem dX7_leave_24 : decode cX7_leave 24 = .ok (.ireturn, 1) := by decide +kernel
theorem dX7_leave_25 : decode cX7_leave 25 = .ok (.aload_n 0, 1) := by decide +kernel
theorem dX7_leave_26 : decode cX7_leave 26 = .ok (.aload_n 0, 1) := by decide +kernel
theorem dX7_leave_27 : decode cX7_leave 27 = .ok (.aload_n 0, 1) := by decide +kernel
theorem dX7_leave_28 : decode cX7_leave 28 = .ok (.getfield 100, 3) := by decide +kernel
theorem dX7_leave_31 : decode cX7_leave 31 = .ok (.invokevirtual 152, 3) := by decide +kernel
theorem dX7_leave_34 : decode cX7_leave 34 = .ok (.putfield 100, 3) := by decide +kernel
theorem dX7_leave_37 : decode cX7_leave 37 = .ok (.aload_n 0, 1) := by decide +kernel
theorem dX7_leave_38 : decode cX7_leave 38 = .ok (.iconst 0, 1) := by decide +kernel
theorem dX7_leave_39 : decode cX7_leave 39 = .ok (.putfield 97, 3) := by decide +kernel
theorem dX7_leave_42 : decode cX7_leave 42 = .ok (.iconst 0, 1) := by decide +kernel
theorem dX7_leave_43 : decode cX7_leave 43 = .ok (.istore_n 1, 1) := by decide +kernel
theorem dX7_leave_44 : decode cX7_leave 44 = .ok (.iload_n 1, 1) := by decide +kernel
theorem dX7_leave_45 : decode cX7_leave 45 = .ok (.aload_n 0, 1) := by decide +kernel
theorem dX7_leave_46 : decode cX7_leave 46 = .ok (.getfield 94, 3) := by decide +kernel
theorem dX7_leave_49 : decode cX7_leave 49 = .ok (.if_icmp .ge 34, 3) := by decide +kernel
theorem dX7_leave_52 : decode cX7_leave 52 = .ok (.aload_n 0, 1) := by decide +kernel
theorem dX7_leave_53 : decode cX7_leave 53 = .ok (.getfield 51, 3) := by decide +kernel
theorem dX7_leave_56 : decode cX7_leave 56 = .ok (.iload_n 1, 1) := by decide +kernel
theorem dX7_leave_57 : decode cX7_leave 57 = .ok (.aload_n 0, 1) := by decide +kernel
theorem dX7_leave_58 : decode cX7_leave 58 = .ok (.getfield 51, 3) := by decide +kernel
theorem dX7_leave_61 : decode cX7_leave 61 = .ok (.iload_n 1, 1) := by decide +kernel
theorem dX7_leave_62 : decode cX7_leave 62 = .ok (.iaload, 1) := by decide +kernel
theorem dX7_leave_63 : decode cX7_leave 63 = .ok (.ifCond .ne 7, 3) := by decide +kernel
theorem dX7_leave_66 : decode cX7_leave 66 = .ok (.iconst 2, 1) := by decide +kernel
theorem dX7_leave_67 : decode cX7_leave 67 = .ok (.goto 9, 3) := by decide +kernel
theorem dX7_leave_70 : decode cX7_leave 70 = .ok (.aload_n 0, 1) := by decide +kernel
theorem dX7_leave_71 : decode cX7_leave 71 = .ok (.getfield 51, 3) := by decide +kernel
theorem dX7_leave_74 : decode cX7_leave 74 = .ok (.iload_n 1, 1) := by decide +kernel
theorem dX7_leave_75 : decode cX7_leave 75 = .ok (.iaload, 1) := by decide +kernel
theorem dX7_leave_76 : decode cX7_leave 76 = .ok (.iastore, 1) := by decide +kernel
theorem dX7_leave_77 : decode cX7_leave 77 = .ok (.iinc 1 1, 3) := by decide +kernel
theorem dX7_leave_80 : decode cX7_leave 80 = .ok (.goto (-36), 3) := by decide +kernel
theorem dX7_leave_83 : decode cX7_leave 83 = .ok (.iconst 0, 1) := by decide +kernel
theorem dX7_leave_84 : decode cX7_leave 84 = .ok (.istore_n 1, 1) := by decide +kernel
theorem dX7_leave_85 : decode cX7_leave 85 = .ok (.iload_n 1, 1) := by decide +kernel
theorem dX7_leave_86 : decode cX7_leave 86 = .ok (.bipush 10, 2) := by decide +kernel
theorem dX7_leave_88 : decode cX7_leave 88 = .ok (.if_icmp .ge 16, 3) := by decide +kernel
theorem dX7_leave_91 : decode cX7_leave 91 = .ok (.aload_n 0, 1) := by decide +kernel
theorem dX7_leave_92 : decode cX7_leave 92 = .ok (.getfield 57, 3) := by decide +kernel
theorem dX7_leave_95 : decode cX7_leave 95 = .ok (.iload_n 1, 1) := by decide +kernel
theorem dX7_leave_96 : decode cX7_leave 96 = .ok (.iconst 0, 1) := by decide +kernel
theorem dX7_leave_97 : decode cX7_leave 97 = .ok (.iastore, 1) := by decide +kernel
theorem dX7_leave_98 : decode cX7_leave 98 = .ok (.iinc 1 1, 3) := by decide +kernel
theorem dX7_leave_101 : decode cX7_leave 101 = .ok (.goto (-16), 3) := by decide +kernel
theorem dX7_leave_104 : decode cX7_leave 104 = .ok (.aload_n 0, 1) := by decide +kernel
theorem dX7_leave_105 : decode cX7_leave 105 = .ok (.getfield 100, 3) := by decide +kernel
theorem dX7_leave_108 : decode cX7_leave 108 = .ok (.ireturn, 1) := by decide +kernel
def pX7_leave_b85  (n : Nat) : Int32 → St → Option (Int32 × St) := Nat.rec (fun _ _ => none) (fun _ K85 x1 v => if 10 ≤ x1 then (some (v.2 5, v)) else (if (x1 < 0 ∨ 10 ≤ x1.toNatClampNeg) then none else (K85 (x1 + 1) (sA v 12 (upd (v.1 12) x1.toNatClampNeg 0))))) n
def pX7_leave_b76 (K44 : Int32 → St → Option (Int32 × St)) (x1 : Int32) (y0 : Int32) (y1 : Int32) (v : St) : Option (Int32 × St) := if (y1 < 0 ∨ 60 ≤ y1.toNatClampNeg) then none else (K44 (x1 + 1) (sA v 10 (upd (v.1 10) y1.toNatClampNeg y0)))
def pX7_leave_b44  (n : Nat) : Int32 → St → Option (Int32 × St) := Nat.rec (fun _ _ => none) (fun _ K44 x1 v => if (v.2 4) ≤ x1 then (pX7_leave_b85 100 0 v) else (if (x1 < 0 ∨ 60 ≤ x1.toNatClampNeg) then none else (if (v.1 10 x1.toNatClampNeg) = 0 then (pX7_leave_b76 K44 x1 2 x1 v) else (if (x1 < 0 ∨ 60 ≤ x1.toNatClampNeg) then none else (pX7_leave_b76 K44 x1 (v.1 10 x1.toNatClampNeg) x1 v))))) n
def pX7_leave_b13  (y0 : Int32) (v : St) : Option (Int32 × St) := if ((sS v 0 y0).2 0) ≤ 0 then (bnd (pX7_nextPort ((sS v 0 y0).2 5) (sS v 0 y0)) (fun r6 w7 => pX7_leave_b44 100 0 (sS (sS w7 5 r6) 6 0))) else (some (0, sS v 0 y0))
def pX7_leave  (u : St) : Option (Int32 × St) := bnd (pX7_barsNow u) (fun r1 w2 => if r1 = 0 then (pX7_leave_b13 0 w2) else (pX7_leave_b13 1 w2))
set_option maxHeartbeats 4000000 in
set_option maxRecDepth 20000 in
theorem kX7_leave {l : Launch} {D : va_G} {Y : Nat → ClassId} {q : Nat → Nat} {u u1 : St} {r : Int32} (hX : pX7_leave u = some (r, u1)) : CMi l yX7_leave cX7_leave 2 (some .int) 2 50 D Y (wM Y q u) (wM Y q u1) [.ref (q 0)] r := by
  refine cm_ofi (by decide) (Nat.le_of_ble_eq_true rfl) rfl (fun p e s m args below meth c A F hr hlk => ?_)
  show GW p l e { frames := 2, cells := 0, slots := 0, locals := 50 } s m args below meth c D A 2 0 0 (MQ below (QI D (wM Y q u1) r A) args s 0 0 A) (wM Y q u) 0 [(0, .ref (q 0))] []
  have b85 : ∀  (n : Nat) (x1 : Int32) (v : St), pX7_leave_b85  n x1 v = some (r, u1) → GW p l e { frames := 2, cells := 0, slots := 0, locals := 50 } s m args below meth c D A 2 0 0 (MQ below (QI D (wM Y q u1) r A) args s 0 0 A) (wM Y q v) 85 [(0, .ref (q 0)), (1, .int x1)] [] := by
    intro  n
    induction n with
    | zero => intro x1 v hX; cases hX
    | succ n ih =>
      intro x1 v hX
      obtain ⟨K85, eK⟩ : ∃ K : Int32 → St → Option (Int32 × St), K = pX7_leave_b85  n := ⟨_, rfl⟩
      have hK85 : ∀ (x1 : Int32) (v : St), K85 x1 v = some (r, u1) → GW p l e { frames := 2, cells := 0, slots := 0, locals := 50 } s m args below meth c D A 2 0 0 (MQ below (QI D (wM Y q u1) r A) args s 0 0 A) (wM Y q v) 85 [(0, .ref (q 0)), (1, .int x1)] [] := by rw [eK]; exact ih
      have hX : (if 10 ≤ x1 then (some (v.2 5, v)) else (if (x1 < 0 ∨ 10 ≤ x1.toNatClampNeg) then none else (K85 (x1 + 1) (sA v 12 (upd (v.1 12) x1.toNatClampNeg 0))))) = some (r, u1) := by rw [eK]; exact hX
      refine g_iload_n F dX7_leave_85 1 rfl rfl ?_
      refine g_bipush (v := 10) F dX7_leave_86 (by decide) ?_
      refine g_icmp_ge (tgt := 104) F dX7_leave_88 (by decide) (fun c10 => ?_) (fun c10 => ?_)
      · have hX := if_t hX c10
        refine g_aload_n F dX7_leave_104 0 rfl rfl ?_
        refine G_X7_100 F dX7_leave_105 ?_
        exact g_retC (wf := wM Y q) F hr rfl hlk dX7_leave_108 hX
      · have hX := if_f hX c10
        refine g_aload_n F dX7_leave_91 0 rfl rfl ?_
        refine G_X7_57 F dX7_leave_92 ?_
        refine g_iload_n F dX7_leave_95 1 rfl rfl ?_
        refine g_iconst (v := 0) F dX7_leave_96 (by decide) ?_
        obtain ⟨hI11, hX⟩ := inb hX
        refine AS_12 F hI11 dX7_leave_97 ?_
        refine g_iinc (v := x1 + 1) (lv' := [(1, .int (x1 + 1)), (0, .ref (q 0))]) F dX7_leave_98 1 rfl rfl (by decide) rfl ?_
        refine g_goto (tgt := 85) F dX7_leave_101 (by decide) ?_
        refine g_sub [1, 0] rfl ?_
        exact hK85 (x1 + 1) (sA v 12 (upd (v.1 12) x1.toNatClampNeg 0)) hX
  have b76 : ∀ (K44 : Int32 → St → Option (Int32 × St)) (hK44 : ∀ (x1 : Int32) (v : St), K44 x1 v = some (r, u1) → GW p l e { frames := 2, cells := 0, slots := 0, locals := 50 } s m args below meth c D A 2 0 0 (MQ below (QI D (wM Y q u1) r A) args s 0 0 A) (wM Y q v) 44 [(0, .ref (q 0)), (1, .int x1)] []) (x1 : Int32) (y0 : Int32) (y1 : Int32) (v : St), pX7_leave_b76 K44 x1 y0 y1 v = some (r, u1) → GW p l e { frames := 2, cells := 0, slots := 0, locals := 50 } s m args below meth c D A 2 0 0 (MQ below (QI D (wM Y q u1) r A) args s 0 0 A) (wM Y q v) 76 [(0, .ref (q 0)), (1, .int x1)] [.int y0, .int y1, .ref (q 11)] := by
    intro K44 hK44 x1 y0 y1 v hX
    have hX : (if (y1 < 0 ∨ 60 ≤ y1.toNatClampNeg) then none else (K44 (x1 + 1) (sA v 10 (upd (v.1 10) y1.toNatClampNeg y0)))) = some (r, u1) := hX
    obtain ⟨hI15, hX⟩ := inb hX
    refine AS_10 F hI15 dX7_leave_76 ?_
    refine g_iinc (v := x1 + 1) (lv' := [(1, .int (x1 + 1)), (0, .ref (q 0))]) F dX7_leave_77 1 rfl rfl (by decide) rfl ?_
    refine g_goto (tgt := 44) F dX7_leave_80 (by decide) ?_
    refine g_sub [1, 0] rfl ?_
    exact hK44 (x1 + 1) (sA v 10 (upd (v.1 10) y1.toNatClampNeg y0)) hX
  have b44 : ∀  (n : Nat) (x1 : Int32) (v : St), pX7_leave_b44  n x1 v = some (r, u1) → GW p l e { frames := 2, cells := 0, slots := 0, locals := 50 } s m args below meth c D A 2 0 0 (MQ below (QI D (wM Y q u1) r A) args s 0 0 A) (wM Y q v) 44 [(0, .ref (q 0)), (1, .int x1)] [] := by
    intro  n
    induction n with
    | zero => intro x1 v hX; cases hX
    | succ n ih =>
      intro x1 v hX
      obtain ⟨K44, eK⟩ : ∃ K : Int32 → St → Option (Int32 × St), K = pX7_leave_b44  n := ⟨_, rfl⟩
      have hK44 : ∀ (x1 : Int32) (v : St), K44 x1 v = some (r, u1) → GW p l e { frames := 2, cells := 0, slots := 0, locals := 50 } s m args below meth c D A 2 0 0 (MQ below (QI D (wM Y q u1) r A) args s 0 0 A) (wM Y q v) 44 [(0, .ref (q 0)), (1, .int x1)] [] := by rw [eK]; exact ih
      have hX : (if (v.2 4) ≤ x1 then (pX7_leave_b85 100 0 v) else (if (x1 < 0 ∨ 60 ≤ x1.toNatClampNeg) then none else (if (v.1 10 x1.toNatClampNeg) = 0 then (pX7_leave_b76 K44 x1 2 x1 v) else (if (x1 < 0 ∨ 60 ≤ x1.toNatClampNeg) then none else (pX7_leave_b76 K44 x1 (v.1 10 x1.toNatClampNeg) x1 v))))) = some (r, u1) := by rw [eK]; exact hX
      refine g_iload_n F dX7_leave_44 1 rfl rfl ?_
      refine g_aload_n F dX7_leave_45 0 rfl rfl ?_
      refine G_X7_94 F dX7_leave_46 ?_
      refine g_icmp_ge (tgt := 83) F dX7_leave_49 (by decide) (fun c9 => ?_) (fun c9 => ?_)
      · have hX := if_t hX c9
        refine g_iconst (v := 0) F dX7_leave_83 (by decide) ?_
        refine g_istore_n (lv' := [(1, .int 0), (0, .ref (q 0))]) F dX7_leave_84 rfl (by decide) rfl ?_
        refine g_sub [1, 0] rfl ?_
        exact b85 100 0 v hX
      · have hX := if_f hX c9
        refine g_aload_n F dX7_leave_52 0 rfl rfl ?_
        refine G_X7_51 F dX7_leave_53 ?_
        refine g_iload_n F dX7_leave_56 1 rfl rfl ?_
        refine g_aload_n F dX7_leave_57 0 rfl rfl ?_
        refine G_X7_51 F dX7_leave_58 ?_
        refine g_iload_n F dX7_leave_61 1 rfl rfl ?_
        obtain ⟨hI12, hX⟩ := inb hX
        refine AL_10 F hI12 dX7_leave_62 ?_
        refine g_if_ne (tgt := 70) F dX7_leave_63 (by decide) (fun c13 => ?_) (fun c13 => ?_)
        · have hX := if_f hX c13
          refine g_aload_n F dX7_leave_70 0 rfl rfl ?_
          refine G_X7_51 F dX7_leave_71 ?_
          refine g_iload_n F dX7_leave_74 1 rfl rfl ?_
          obtain ⟨hI14, hX⟩ := inb hX
          refine AL_10 F hI14 dX7_leave_75 ?_
          exact b76 K44 hK44 x1 (v.1 10 x1.toNatClampNeg) x1 v hX
        · have hX := if_t hX c13
          refine g_iconst (v := 2) F dX7_leave_66 (by decide) ?_
          refine g_goto (tgt := 76) F dX7_leave_67 (by decide) ?_
          exact b76 K44 hK44 x1 2 x1 v hX
  have b13 : ∀  (y0 : Int32) (v : St), pX7_leave_b13  y0 v = some (r, u1) → GW p l e { frames := 2, cells := 0, slots := 0, locals := 50 } s m args below meth c D A 2 0 0 (MQ below (QI D (wM Y q u1) r A) args s 0 0 A) (wM Y q v) 13 [(0, .ref (q 0))] [.int y0, .ref (q 0)] := by
    intro  y0 v hX
    have hX : (if ((sS v 0 y0).2 0) ≤ 0 then (bnd (pX7_nextPort ((sS v 0 y0).2 5) (sS v 0 y0)) (fun r6 w7 => pX7_leave_b44 100 0 (sS (sS w7 5 r6) 6 0))) else (some (0, sS v 0 y0))) = some (r, u1) := hX
    refine P_X7_87 F dX7_leave_13 ?_
    refine g_aload_n F dX7_leave_16 0 rfl rfl ?_
    refine G_X7_87 F dX7_leave_17 ?_
    refine g_if_le (tgt := 25) F dX7_leave_20 (by decide) (fun c5 => ?_) (fun c5 => ?_)
    · have hX := if_t hX c5
      refine g_aload_n F dX7_leave_25 0 rfl rfl ?_
      refine g_aload_n F dX7_leave_26 0 rfl rfl ?_
      refine g_aload_n F dX7_leave_27 0 rfl rfl ?_
      refine G_X7_100 F dX7_leave_28 ?_
      obtain ⟨r6, w7, hc8, hX⟩ := bnd_s hX
      refine callX7_nextPort F hc8 ml_X7_152 ⟨Nat.le_of_ble_eq_true rfl, Nat.le_of_ble_eq_true rfl⟩ (Nat.le_of_ble_eq_true rfl) dX7_leave_31 ?_
      refine P_X7_100 F dX7_leave_34 ?_
      refine g_aload_n F dX7_leave_37 0 rfl rfl ?_
      refine g_iconst (v := 0) F dX7_leave_38 (by decide) ?_
      refine P_X7_97 F dX7_leave_39 ?_
      refine g_iconst (v := 0) F dX7_leave_42 (by decide) ?_
      refine g_istore_n (lv' := [(1, .int 0), (0, .ref (q 0))]) F dX7_leave_43 rfl (by decide) rfl ?_
      refine g_sub [1, 0] rfl ?_
      exact b44 100 0 (sS (sS w7 5 r6) 6 0) hX
    · have hX := if_f hX c5
      refine g_iconst (v := 0) F dX7_leave_23 (by decide) ?_
      exact g_retC (wf := wM Y q) F hr rfl hlk dX7_leave_24 hX
  have hX : (bnd (pX7_barsNow u) (fun r1 w2 => if r1 = 0 then (pX7_leave_b13 0 w2) else (pX7_leave_b13 1 w2))) = some (r, u1) := hX
  refine g_aload_n F dX7_leave_0 0 rfl rfl ?_
  refine g_aload_n F dX7_leave_1 0 rfl rfl ?_
  obtain ⟨r1, w2, hc3, hX⟩ := bnd_s hX
  refine callX7_barsNow F hc3 ml_X7_198 ⟨Nat.le_of_ble_eq_true rfl, Nat.le_of_ble_eq_true rfl⟩ (Nat.le_of_ble_eq_true rfl) dX7_leave_2 ?_
  refine g_if_ne (tgt := 12) F dX7_leave_5 (by decide) (fun c4 => ?_) (fun c4 => ?_)
  · have hX := if_f hX c4
    refine g_iconst (v := 1) F dX7_leave_12 (by decide) ?_
    exact b13 1 w2 hX
  · have hX := if_t hX c4
    refine g_iconst (v := 0) F dX7_leave_8 (by decide) ?_
    refine g_goto (tgt := 13) F dX7_leave_9 (by decide) ?_
    exact b13 0 w2 hX
theorem callX7_leave {p : Program} {l : Launch} {e : Env} {R : Room} {s : State} {m : MethodId} {args : Array Value} {below : List Frame} {meth : Method} {c : Code} {D : va_G} {Y : Nat → ClassId} {A : Nat → Prop} {cc : ByteArray} {nL : Nat} {own : String} {Q : State → Prop} {pc : Nat} {lv : List (Nat × Value)} {rest : List Value} {q : Nat → Nat} {u u1 : St} {r : Int32} (F : Fx p s m args c D Y A cc nL own) (hX : pX7_leave u = some (r, u1)) {index : Nat} (hml : Cond.methodLink own index yX7_leave ∈ TBL) (hR : 2 + 1 ≤ R.frames ∧ 8 + (2 + 11) + 50 ≤ R.locals) (hcat : (rest.map fun v => v.category).sum ≤ 8) (hd : decode cc pc = .ok (.invokevirtual index, 3)) (kk : GW p l e R s m args below meth c D A nL 0 0 Q (wM Y q u1) (pc + 3) lv (.int r :: rest)) : GW p l e R s m args below meth c D A nL 0 0 Q (wM Y q u) pc lv (.ref (q 0) :: rest) := g_callVi (ws := wM Y q u) (n := 0) (q0 := 0) (As := []) F [] [] (kX7_leave hX) (List.append_nil _).symm (List.append_nil _) (by unfold mOK; decide +kernel) rfl rfl cd_yX7_leave hml im_yX7_leave se_yX7_leave in_X7 rfl rfl hR ⟨Nat.zero_le _, Nat.zero_le _⟩ rfl hcat hd kk
theorem dX7_hour_0 : decode cX7_hour 0 = .ok (.aload_n 0, 1) := by decide +kernel
theorem dX7_hour_1 : decode cX7_hour 1 = .ok (.iconst 0, 1) := by decide +kernel
theorem dX7_hour_2 : decode cX7_hour 2 = .ok (.putfield 87, 3) := by decide +kernel
theorem dX7_hour_5 : decode cX7_hour 5 = .ok (.aload_n 0, 1) := by decide +kernel
theorem dX7_hour_6 : decode cX7_hour 6 = .ok (.getfield 114, 3) := by decide +kernel
theorem dX7_hour_9 : decode cX7_hour 9 = .ok (.ireturn, 1) := by decide +kernel
def pX7_hour  (u : St) : Option (Int32 × St) := some ((sS u 0 0).2 7, sS u 0 0)
set_option maxHeartbeats 4000000 in
set_option maxRecDepth 20000 in
theorem kX7_hour {l : Launch} {D : va_G} {Y : Nat → ClassId} {q : Nat → Nat} {u u1 : St} {r : Int32} (hX : pX7_hour u = some (r, u1)) : CMi l yX7_hour cX7_hour 1 (some .int) 0 0 D Y (wM Y q u) (wM Y q u1) [.ref (q 0)] r := by
  refine cm_ofi (by decide) (Nat.le_of_ble_eq_true rfl) rfl (fun p e s m args below meth c A F hr hlk => ?_)
  show GW p l e { frames := 0, cells := 0, slots := 0, locals := 0 } s m args below meth c D A 1 0 0 (MQ below (QI D (wM Y q u1) r A) args s 0 0 A) (wM Y q u) 0 [(0, .ref (q 0))] []
  have hX : (some ((sS u 0 0).2 7, sS u 0 0)) = some (r, u1) := hX
  refine g_aload_n F dX7_hour_0 0 rfl rfl ?_
  refine g_iconst (v := 0) F dX7_hour_1 (by decide) ?_
  refine P_X7_87 F dX7_hour_2 ?_
  refine g_aload_n F dX7_hour_5 0 rfl rfl ?_
  refine G_X7_114 F dX7_hour_6 ?_
  exact g_retC (wf := wM Y q) F hr rfl hlk dX7_hour_9 hX
theorem callX7_hour {p : Program} {l : Launch} {e : Env} {R : Room} {s : State} {m : MethodId} {args : Array Value} {below : List Frame} {meth : Method} {c : Code} {D : va_G} {Y : Nat → ClassId} {A : Nat → Prop} {cc : ByteArray} {nL : Nat} {own : String} {Q : State → Prop} {pc : Nat} {lv : List (Nat × Value)} {rest : List Value} {q : Nat → Nat} {u u1 : St} {r : Int32} (F : Fx p s m args c D Y A cc nL own) (hX : pX7_hour u = some (r, u1)) {index : Nat} (hml : Cond.methodLink own index yX7_hour ∈ TBL) (hR : 0 + 1 ≤ R.frames ∧ 8 + (1 + 11) + 0 ≤ R.locals) (hcat : (rest.map fun v => v.category).sum ≤ 8) (hd : decode cc pc = .ok (.invokevirtual index, 3)) (kk : GW p l e R s m args below meth c D A nL 0 0 Q (wM Y q u1) (pc + 3) lv (.int r :: rest)) : GW p l e R s m args below meth c D A nL 0 0 Q (wM Y q u) pc lv (.ref (q 0) :: rest) := g_callVi (ws := wM Y q u) (n := 0) (q0 := 0) (As := []) F [] [] (kX7_hour hX) (List.append_nil _).symm (List.append_nil _) (by unfold mOK; decide +kernel) rfl rfl cd_yX7_hour hml im_yX7_hour se_yX7_hour in_X7 rfl rfl hR ⟨Nat.zero_le _, Nat.zero_le _⟩ rfl hcat hd kk
theorem dX7_port_0 : decode cX7_port 0 = .ok (.aload_n 0, 1) := by decide +kernel
theorem dX7_port_1 : decode cX7_port 1 = .ok (.iconst 0, 1) := by decide +kernel
theorem dX7_port_2 : decode cX7_port 2 = .ok (.putfield 87, 3) := by decide +kernel
theorem dX7_port_5 : decode cX7_port 5 = .ok (.aload_n 0, 1) := by decide +kernel
theorem dX7_port_6 : decode cX7_port 6 = .ok (.getfield 100, 3) := by decide +kernel
theorem dX7_port_9 : decode cX7_port 9 = .ok (.ireturn, 1) := by decide +kernel
def pX7_port  (u : St) : Option (Int32 × St) := some ((sS u 0 0).2 5, sS u 0 0)
set_option maxHeartbeats 4000000 in
set_option maxRecDepth 20000 in
theorem kX7_port {l : Launch} {D : va_G} {Y : Nat → ClassId} {q : Nat → Nat} {u u1 : St} {r : Int32} (hX : pX7_port u = some (r, u1)) : CMi l yX7_port cX7_port 1 (some .int) 0 0 D Y (wM Y q u) (wM Y q u1) [.ref (q 0)] r := by
  refine cm_ofi (by decide) (Nat.le_of_ble_eq_true rfl) rfl (fun p e s m args below meth c A F hr hlk => ?_)
  show GW p l e { frames := 0, cells := 0, slots := 0, locals := 0 } s m args below meth c D A 1 0 0 (MQ below (QI D (wM Y q u1) r A) args s 0 0 A) (wM Y q u) 0 [(0, .ref (q 0))] []
  have hX : (some ((sS u 0 0).2 5, sS u 0 0)) = some (r, u1) := hX
  refine g_aload_n F dX7_port_0 0 rfl rfl ?_
  refine g_iconst (v := 0) F dX7_port_1 (by decide) ?_
  refine P_X7_87 F dX7_port_2 ?_
  refine g_aload_n F dX7_port_5 0 rfl rfl ?_
  refine G_X7_100 F dX7_port_6 ?_
  exact g_retC (wf := wM Y q) F hr rfl hlk dX7_port_9 hX
theorem callX7_port {p : Program} {l : Launch} {e : Env} {R : Room} {s : State} {m : MethodId} {args : Array Value} {below : List Frame} {meth : Method} {c : Code} {D : va_G} {Y : Nat → ClassId} {A : Nat → Prop} {cc : ByteArray} {nL : Nat} {own : String} {Q : State → Prop} {pc : Nat} {lv : List (Nat × Value)} {rest : List Value} {q : Nat → Nat} {u u1 : St} {r : Int32} (F : Fx p s m args c D Y A cc nL own) (hX : pX7_port u = some (r, u1)) {index : Nat} (hml : Cond.methodLink own index yX7_port ∈ TBL) (hR : 0 + 1 ≤ R.frames ∧ 8 + (1 + 11) + 0 ≤ R.locals) (hcat : (rest.map fun v => v.category).sum ≤ 8) (hd : decode cc pc = .ok (.invokevirtual index, 3)) (kk : GW p l e R s m args below meth c D A nL 0 0 Q (wM Y q u1) (pc + 3) lv (.int r :: rest)) : GW p l e R s m args below meth c D A nL 0 0 Q (wM Y q u) pc lv (.ref (q 0) :: rest) := g_callVi (ws := wM Y q u) (n := 0) (q0 := 0) (As := []) F [] [] (kX7_port hX) (List.append_nil _).symm (List.append_nil _) (by unfold mOK; decide +kernel) rfl rfl cd_yX7_port hml im_yX7_port se_yX7_port in_X7 rfl rfl hR ⟨Nat.zero_le _, Nat.zero_le _⟩ rfl hcat hd kk
theorem dX7_cost_0 : decode cX7_cost 0 = .ok (.aload_n 0, 1) := by decide +kernel
theorem dX7_cost_1 : decode cX7_cost 1 = .ok (.iconst 0, 1) := by decide +kernel
theorem dX7_cost_2 : decode cX7_cost 2 = .ok (.putfield 87, 3) := by decide +kernel
theorem dX7_cost_5 : decode cX7_cost 5 = .ok (.aload_n 0, 1) := by decide +kernel
theorem dX7_cost_6 : decode cX7_cost 6 = .ok (.getfield 186, 3) := by decide +kernel
theorem dX7_cost_9 : decode cX7_cost 9 = .ok (.ireturn, 1) := by decide +kernel
def pX7_cost  (u : St) : Option (Int32 × St) := some ((sS u 0 0).2 8, sS u 0 0)
set_option maxHeartbeats 4000000 in
set_option maxRecDepth 20000 in
theorem kX7_cost {l : Launch} {D : va_G} {Y : Nat → ClassId} {q : Nat → Nat} {u u1 : St} {r : Int32} (hX : pX7_cost u = some (r, u1)) : CMi l yX7_cost cX7_cost 1 (some .int) 0 0 D Y (wM Y q u) (wM Y q u1) [.ref (q 0)] r := by
  refine cm_ofi (by decide) (Nat.le_of_ble_eq_true rfl) rfl (fun p e s m args below meth c A F hr hlk => ?_)
  show GW p l e { frames := 0, cells := 0, slots := 0, locals := 0 } s m args below meth c D A 1 0 0 (MQ below (QI D (wM Y q u1) r A) args s 0 0 A) (wM Y q u) 0 [(0, .ref (q 0))] []
  have hX : (some ((sS u 0 0).2 8, sS u 0 0)) = some (r, u1) := hX
  refine g_aload_n F dX7_cost_0 0 rfl rfl ?_
  refine g_iconst (v := 0) F dX7_cost_1 (by decide) ?_
  refine P_X7_87 F dX7_cost_2 ?_
  refine g_aload_n F dX7_cost_5 0 rfl rfl ?_
  refine G_X7_186 F dX7_cost_6 ?_
  exact g_retC (wf := wM Y q) F hr rfl hlk dX7_cost_9 hX
theorem callX7_cost {p : Program} {l : Launch} {e : Env} {R : Room} {s : State} {m : MethodId} {args : Array Value} {below : List Frame} {meth : Method} {c : Code} {D : va_G} {Y : Nat → ClassId} {A : Nat → Prop} {cc : ByteArray} {nL : Nat} {own : String} {Q : State → Prop} {pc : Nat} {lv : List (Nat × Value)} {rest : List Value} {q : Nat → Nat} {u u1 : St} {r : Int32} (F : Fx p s m args c D Y A cc nL own) (hX : pX7_cost u = some (r, u1)) {index : Nat} (hml : Cond.methodLink own index yX7_cost ∈ TBL) (hR : 0 + 1 ≤ R.frames ∧ 8 + (1 + 11) + 0 ≤ R.locals) (hcat : (rest.map fun v => v.category).sum ≤ 8) (hd : decode cc pc = .ok (.invokevirtual index, 3)) (kk : GW p l e R s m args below meth c D A nL 0 0 Q (wM Y q u1) (pc + 3) lv (.int r :: rest)) : GW p l e R s m args below meth c D A nL 0 0 Q (wM Y q u) pc lv (.ref (q 0) :: rest) := g_callVi (ws := wM Y q u) (n := 0) (q0 := 0) (As := []) F [] [] (kX7_cost hX) (List.append_nil _).symm (List.append_nil _) (by unfold mOK; decide +kernel) rfl rfl cd_yX7_cost hml im_yX7_cost se_yX7_cost in_X7 rfl rfl hR ⟨Nat.zero_le _, Nat.zero_le _⟩ rfl hcat hd kk
theorem dX7_of_0 : decode cX7_of 0 = .ok (.aload_n 0, 1) := by decide +kernel
theorem dX7_of_1 : decode cX7_of 1 = .ok (.aload_n 0, 1) := by decide +kernel
theorem dX7_of_2 : decode cX7_of 2 = .ok (.iload_n 1, 1) := by decide +kernel
theorem dX7_of_3 : decode cX7_of 3 = .ok (.invokevirtual 143, 3) := by decide +kernel
theorem dX7_of_6 : decode cX7_of 6 = .ok (.ifCond .ne 7, 3) := by decide +kernel
theorem dX7_of_9 : decode cX7_of 9 = .ok (.iconst 1, 1) := by decide +kernel
theorem dX7_of_10 : decode cX7_of 10 = .ok (.goto 18, 3) := by decide +kernel
theorem dX7_of_13 : decode cX7_of 13 = .ok (.iload_n 2, 1) := by decide +kernel
theorem dX7_of_14 : decode cX7_of 14 = .ok (.iconst 0, 1) := by decide +kernel
theorem dX7_of_15 : decode cX7_of 15 = .ok (.bipush 6, 2) := by decide +kernel
theorem dX7_of_17 : decode cX7_of 17 = .ok (.invokestatic 90, 3) := by decide +kernel
theorem dX7_of_20 : decode cX7_of 20 = .ok (.ifCond .eq 7, 3) := by decide +kernel
theorem dX7_of_23 : decode cX7_of 23 = .ok (.iconst 0, 1) := by decide +kernel
theorem dX7_of_24 : decode cX7_of 24 = .ok (.goto 4, 3) := by decide +kernel
theorem dX7_of_27 : decode cX7_of 27 = .ok (.iconst 2, 1) := by decide +kernel
theorem dX7_of_28 : decode cX7_of 28 = .ok (.putfield 87, 3) := by decide +kernel
theorem dX7_of_31 : decode cX7_of 31 = .ok (.aload_n 0, 1) := by decide +kernel
theorem dX7_of_32 : decode cX7_of 32 = .ok (.getfield 87, 3) := by decide +kernel
theorem dX7_of_35 : decode cX7_of 35 = .ok (.ifCond .le 5, 3) := by decide +kernel
theorem dX7_of_38 : decode cX7_of 38 = .ok (.iconst 0, 1) := by decide +kernel
theorem dX7_of_39 : decode cX7_of 39 = .ok (.ireturn, 1) := by decide +kernel
theorem dX7_of_40 : decode cX7_of 40 = .ok (.iload_n 2, 1) := by decide +kernel
theorem dX7_of_41 : decode cX7_of 41 = .ok (.tableswitch 123 0 5 #[39, 46, 53, 60, 74, 81], 39) := by decide +kernel
theorem dX7_of_80 : decode cX7_of 80 = .ok (.aload_n 0, 1) := by decide +kernel
theorem dX7_of_81 : decode cX7_of 81 = .ok (.getfield 36, 3) := by decide +kernel
theorem dX7_of_84 : decode cX7_of 84 = .ok (.iload_n 1, 1) := by decide +kernel
theorem dX7_of_85 : decode cX7_of 85 = .ok (.iaload, 1) := by decide +kernel
theorem dX7_of_86 : decode cX7_of 86 = .ok (.ireturn, 1) := by decide +kernel
theorem dX7_of_87 : decode cX7_of 87 = .ok (.aload_n 0, 1) := by decide +kernel
theorem dX7_of_88 : decode cX7_of 88 = .ok (.getfield 42, 3) := by decide +kernel
theorem dX7_of_91 : decode cX7_of 91 = .ok (.iload_n 1, 1) := by decide +kernel
theorem dX7_of_92 : decode cX7_of 92 = .ok (.iaload, 1) := by decide +kernel
theorem dX7_of_93 : decode cX7_of 93 = .ok (.ireturn, 1) := by decide +kernel
theorem dX7_of_94 : decode cX7_of 94 = .ok (.aload_n 0, 1) := by decide +kernel
theorem dX7_of_95 : decode cX7_of 95 = .ok (.getfield 45, 3) := by decide +kernel
theorem dX7_of_98 : decode cX7_of 98 = .ok (.iload_n 1, 1) := by decide +kernel
theorem dX7_of_99 : decode cX7_of 99 = .ok (.iaload, 1) := by decide +kernel
theorem dX7_of_100 : decode cX7_of 100 = .ok (.ireturn, 1) := by decide +kernel
theorem dX7_of_101 : decode cX7_of 101 = .ok (.aload_n 0, 1) := by decide +kernel
theorem dX7_of_102 : decode cX7_of 102 = .ok (.iload_n 1, 1) := by decide +kernel
theorem dX7_of_103 : decode cX7_of 103 = .ok (.invokevirtual 146, 3) := by decide +kernel
theorem dX7_of_106 : decode cX7_of 106 = .ok (.ifCond .eq 7, 3) := by decide +kernel
theorem dX7_of_109 : decode cX7_of 109 = .ok (.iconst 1, 1) := by decide +kernel
theorem dX7_of_110 : decode cX7_of 110 = .ok (.goto 4, 3) := by decide +kernel
theorem dX7_of_113 : decode cX7_of 113 = .ok (.iconst 0, 1) := by decide +kernel
theorem dX7_of_114 : decode cX7_of 114 = .ok (.ireturn, 1) := by decide +kernel
theorem dX7_of_115 : decode cX7_of 115 = .ok (.aload_n 0, 1) := by decide +kernel
theorem dX7_of_116 : decode cX7_of 116 = .ok (.getfield 51, 3) := by decide +kernel
theorem dX7_of_119 : decode cX7_of 119 = .ok (.iload_n 1, 1) := by decide +kernel
theorem dX7_of_120 : decode cX7_of 120 = .ok (.iaload, 1) := by decide +kernel
theorem dX7_of_121 : decode cX7_of 121 = .ok (.ireturn, 1) := by decide +kernel
theorem dX7_of_122 : decode cX7_of 122 = .ok (.aload_n 0, 1) := by decide +kernel
theorem dX7_of_123 : decode cX7_of 123 = .ok (.getfield 51, 3) := by decide +kernel
theorem dX7_of_126 : decode cX7_of 126 = .ok (.iload_n 1, 1) := by decide +kernel
theorem dX7_of_127 : decode cX7_of 127 = .ok (.iaload, 1) := by decide +kernel
theorem dX7_of_128 : decode cX7_of 128 = .ok (.iconst 2, 1) := by decide +kernel
theorem dX7_of_129 : decode cX7_of 129 = .ok (.if_icmp .ne 7, 3) := by decide +kernel
theorem dX7_of_132 : decode cX7_of 132 = .ok (.iconst (-1), 1) := by decide +kernel
theorem dX7_of_133 : decode cX7_of 133 = .ok (.goto 30, 3) := by decide +kernel
theorem dX7_of_136 : decode cX7_of 136 = .ok (.aload_n 0, 1) := by decide +kernel
theorem dX7_of_137 : decode cX7_of 137 = .ok (.getfield 51, 3) := by decide +kernel
theorem dX7_of_140 : decode cX7_of 140 = .ok (.iload_n 1, 1) := by decide +kernel
theorem dX7_of_141 : decode cX7_of 141 = .ok (.iaload, 1) := by decide +kernel
theorem dX7_of_142 : decode cX7_of 142 = .ok (.ifCond .ne 12, 3) := by decide +kernel
theorem dX7_of_145 : decode cX7_of 145 = .ok (.aload_n 0, 1) := by decide +kernel
theorem dX7_of_146 : decode cX7_of 146 = .ok (.getfield 54, 3) := by decide +kernel
theorem dX7_of_149 : decode cX7_of 149 = .ok (.iload_n 1, 1) := by decide +kernel
theorem dX7_of_150 : decode cX7_of 150 = .ok (.iaload, 1) := by decide +kernel
theorem dX7_of_151 : decode cX7_of 151 = .ok (.goto 12, 3) := by decide +kernel
theorem dX7_of_154 : decode cX7_of 154 = .ok (.aload_n 0, 1) := by decide +kernel
theorem dX7_of_155 : decode cX7_of 155 = .ok (.getfield 54, 3) := by decide +kernel
theorem dX7_of_158 : decode cX7_of 158 = .ok (.iload_n 1, 1) := by decide +kernel
theorem dX7_of_159 : decode cX7_of 159 = .ok (.iaload, 1) := by decide +kernel
theorem dX7_of_160 : decode cX7_of 160 = .ok (.invokestatic 202, 3) := by decide +kernel
theorem dX7_of_163 : decode cX7_of 163 = .ok (.ireturn, 1) := by decide +kernel
theorem dX7_of_164 : decode cX7_of 164 = .ok (.aload_n 0, 1) := by decide +kernel
theorem dX7_of_165 : decode cX7_of 165 = .ok (.iload_n 1, 1) := by decide +kernel
theorem dX7_of_166 : decode cX7_of 166 = .ok (.invokevirtual 205, 3) := by decide +kernel
theorem dX7_of_169 : decode cX7_of 169 = .ok (.ireturn, 1) := by decide +kernel
def pX7_of_b28  (x1 : Int32) (x2 : Int32) (y0 : Int32) (v : St) : Option (Int32 × St) := if ((sS v 0 y0).2 0) ≤ 0 then (if x2 = 0 then (if (x1 < 0 ∨ 60 ≤ x1.toNatClampNeg) then none else (some ((sS v 0 y0).1 5 x1.toNatClampNeg, sS v 0 y0))) else (if x2 = 1 then (if (x1 < 0 ∨ 60 ≤ x1.toNatClampNeg) then none else (some ((sS v 0 y0).1 7 x1.toNatClampNeg, sS v 0 y0))) else (if x2 = 2 then (if (x1 < 0 ∨ 60 ≤ x1.toNatClampNeg) then none else (some ((sS v 0 y0).1 8 x1.toNatClampNeg, sS v 0 y0))) else (if x2 = 3 then (bnd (pX7_isHeld x1 (sS v 0 y0)) (fun r13 w14 => if r13 = 0 then (some (0, w14)) else (some (1, w14)))) else (if x2 = 4 then (if (x1 < 0 ∨ 60 ≤ x1.toNatClampNeg) then none else (some ((sS v 0 y0).1 10 x1.toNatClampNeg, sS v 0 y0))) else (if x2 = 5 then (if (x1 < 0 ∨ 60 ≤ x1.toNatClampNeg) then none else (if ((sS v 0 y0).1 10 x1.toNatClampNeg) = 2 then (some ((-1), sS v 0 y0)) else (if (x1 < 0 ∨ 60 ≤ x1.toNatClampNeg) then none else (if ((sS v 0 y0).1 10 x1.toNatClampNeg) = 0 then (if (x1 < 0 ∨ 60 ≤ x1.toNatClampNeg) then none else (some ((sS v 0 y0).1 11 x1.toNatClampNeg, sS v 0 y0))) else (if (x1 < 0 ∨ 60 ≤ x1.toNatClampNeg) then none else (some (pX7_slotOf ((sS v 0 y0).1 11 x1.toNatClampNeg), sS v 0 y0))))))) else (bnd (pX7_liesOn x1 (sS v 0 y0)) (fun r27 w28 => some (r27, w28))))))))) else (some (0, sS v 0 y0))
def pX7_of (a1 : Int32) (a2 : Int32) (u : St) : Option (Int32 × St) := bnd (pX7_isBox a1 u) (fun r1 w2 => if r1 = 0 then (pX7_of_b28 a1 a2 1 w2) else (if (pX7_in a2 0 6) = 0 then (pX7_of_b28 a1 a2 2 w2) else (pX7_of_b28 a1 a2 0 w2)))
set_option maxHeartbeats 4000000 in
set_option maxRecDepth 20000 in
theorem kX7_of {l : Launch} {D : va_G} {Y : Nat → ClassId} {q : Nat → Nat} {a1 a2 : Int32} {u u1 : St} {r : Int32} (hX : pX7_of a1 a2 u = some (r, u1)) : CMi l yX7_of cX7_of 3 (some .int) 2 43 D Y (wM Y q u) (wM Y q u1) [.ref (q 0), .int a1, .int a2] r := by
  refine cm_ofi (by decide) (Nat.le_of_ble_eq_true rfl) rfl (fun p e s m args below meth c A F hr hlk => ?_)
  show GW p l e { frames := 2, cells := 0, slots := 0, locals := 43 } s m args below meth c D A 3 0 0 (MQ below (QI D (wM Y q u1) r A) args s 0 0 A) (wM Y q u) 0 [(0, .ref (q 0)), (1, .int a1), (2, .int a2)] []
  have b28 : ∀  (x1 : Int32) (x2 : Int32) (y0 : Int32) (v : St), pX7_of_b28  x1 x2 y0 v = some (r, u1) → GW p l e { frames := 2, cells := 0, slots := 0, locals := 43 } s m args below meth c D A 3 0 0 (MQ below (QI D (wM Y q u1) r A) args s 0 0 A) (wM Y q v) 28 [(0, .ref (q 0)), (1, .int x1), (2, .int x2)] [.int y0, .ref (q 0)] := by
    intro  x1 x2 y0 v hX
    have hX : (if ((sS v 0 y0).2 0) ≤ 0 then (if x2 = 0 then (if (x1 < 0 ∨ 60 ≤ x1.toNatClampNeg) then none else (some ((sS v 0 y0).1 5 x1.toNatClampNeg, sS v 0 y0))) else (if x2 = 1 then (if (x1 < 0 ∨ 60 ≤ x1.toNatClampNeg) then none else (some ((sS v 0 y0).1 7 x1.toNatClampNeg, sS v 0 y0))) else (if x2 = 2 then (if (x1 < 0 ∨ 60 ≤ x1.toNatClampNeg) then none else (some ((sS v 0 y0).1 8 x1.toNatClampNeg, sS v 0 y0))) else (if x2 = 3 then (bnd (pX7_isHeld x1 (sS v 0 y0)) (fun r13 w14 => if r13 = 0 then (some (0, w14)) else (some (1, w14)))) else (if x2 = 4 then (if (x1 < 0 ∨ 60 ≤ x1.toNatClampNeg) then none else (some ((sS v 0 y0).1 10 x1.toNatClampNeg, sS v 0 y0))) else (if x2 = 5 then (if (x1 < 0 ∨ 60 ≤ x1.toNatClampNeg) then none else (if ((sS v 0 y0).1 10 x1.toNatClampNeg) = 2 then (some ((-1), sS v 0 y0)) else (if (x1 < 0 ∨ 60 ≤ x1.toNatClampNeg) then none else (if ((sS v 0 y0).1 10 x1.toNatClampNeg) = 0 then (if (x1 < 0 ∨ 60 ≤ x1.toNatClampNeg) then none else (some ((sS v 0 y0).1 11 x1.toNatClampNeg, sS v 0 y0))) else (if (x1 < 0 ∨ 60 ≤ x1.toNatClampNeg) then none else (some (pX7_slotOf ((sS v 0 y0).1 11 x1.toNatClampNeg), sS v 0 y0))))))) else (bnd (pX7_liesOn x1 (sS v 0 y0)) (fun r27 w28 => some (r27, w28))))))))) else (some (0, sS v 0 y0))) = some (r, u1) := hX
    refine P_X7_87 F dX7_of_28 ?_
    refine g_aload_n F dX7_of_31 0 rfl rfl ?_
    refine G_X7_87 F dX7_of_32 ?_
    refine g_if_le (tgt := 40) F dX7_of_35 (by decide) (fun c6 => ?_) (fun c6 => ?_)
    · have hX := if_t hX c6
      refine g_iload_n F dX7_of_40 2 rfl rfl ?_
      by_cases c8 : x2 = 0
      · have hX := if_t hX c8
        refine g_tabIn (tgt := 80) F dX7_of_41 (by rw [c8]; decide) (by rw [c8]; decide) (by rw [c8]; rfl) (by decide) ?_
        refine g_aload_n F dX7_of_80 0 rfl rfl ?_
        refine G_X7_36 F dX7_of_81 ?_
        refine g_iload_n F dX7_of_84 1 rfl rfl ?_
        obtain ⟨hI7, hX⟩ := inb hX
        refine AL_5 F hI7 dX7_of_85 ?_
        exact g_retC (wf := wM Y q) F hr rfl hlk dX7_of_86 hX
      have hX := if_f hX c8
      by_cases c10 : x2 = 1
      · have hX := if_t hX c10
        refine g_tabIn (tgt := 87) F dX7_of_41 (by rw [c10]; decide) (by rw [c10]; decide) (by rw [c10]; rfl) (by decide) ?_
        refine g_aload_n F dX7_of_87 0 rfl rfl ?_
        refine G_X7_42 F dX7_of_88 ?_
        refine g_iload_n F dX7_of_91 1 rfl rfl ?_
        obtain ⟨hI9, hX⟩ := inb hX
        refine AL_7 F hI9 dX7_of_92 ?_
        exact g_retC (wf := wM Y q) F hr rfl hlk dX7_of_93 hX
      have hX := if_f hX c10
      by_cases c12 : x2 = 2
      · have hX := if_t hX c12
        refine g_tabIn (tgt := 94) F dX7_of_41 (by rw [c12]; decide) (by rw [c12]; decide) (by rw [c12]; rfl) (by decide) ?_
        refine g_aload_n F dX7_of_94 0 rfl rfl ?_
        refine G_X7_45 F dX7_of_95 ?_
        refine g_iload_n F dX7_of_98 1 rfl rfl ?_
        obtain ⟨hI11, hX⟩ := inb hX
        refine AL_8 F hI11 dX7_of_99 ?_
        exact g_retC (wf := wM Y q) F hr rfl hlk dX7_of_100 hX
      have hX := if_f hX c12
      by_cases c17 : x2 = 3
      · have hX := if_t hX c17
        refine g_tabIn (tgt := 101) F dX7_of_41 (by rw [c17]; decide) (by rw [c17]; decide) (by rw [c17]; rfl) (by decide) ?_
        refine g_aload_n F dX7_of_101 0 rfl rfl ?_
        refine g_iload_n F dX7_of_102 1 rfl rfl ?_
        obtain ⟨r13, w14, hc15, hX⟩ := bnd_s hX
        refine callX7_isHeld F hc15 ml_X7_146 ⟨Nat.le_of_ble_eq_true rfl, Nat.le_of_ble_eq_true rfl⟩ (Nat.le_of_ble_eq_true rfl) dX7_of_103 ?_
        refine g_if_eq (tgt := 113) F dX7_of_106 (by decide) (fun c16 => ?_) (fun c16 => ?_)
        · have hX := if_t hX c16
          refine g_iconst (v := 0) F dX7_of_113 (by decide) ?_
          exact g_retC (wf := wM Y q) F hr rfl hlk dX7_of_114 hX
        · have hX := if_f hX c16
          refine g_iconst (v := 1) F dX7_of_109 (by decide) ?_
          refine g_goto (tgt := 114) F dX7_of_110 (by decide) ?_
          exact g_retC (wf := wM Y q) F hr rfl hlk dX7_of_114 hX
      have hX := if_f hX c17
      by_cases c19 : x2 = 4
      · have hX := if_t hX c19
        refine g_tabIn (tgt := 115) F dX7_of_41 (by rw [c19]; decide) (by rw [c19]; decide) (by rw [c19]; rfl) (by decide) ?_
        refine g_aload_n F dX7_of_115 0 rfl rfl ?_
        refine G_X7_51 F dX7_of_116 ?_
        refine g_iload_n F dX7_of_119 1 rfl rfl ?_
        obtain ⟨hI18, hX⟩ := inb hX
        refine AL_10 F hI18 dX7_of_120 ?_
        exact g_retC (wf := wM Y q) F hr rfl hlk dX7_of_121 hX
      have hX := if_f hX c19
      by_cases c26 : x2 = 5
      · have hX := if_t hX c26
        refine g_tabIn (tgt := 122) F dX7_of_41 (by rw [c26]; decide) (by rw [c26]; decide) (by rw [c26]; rfl) (by decide) ?_
        refine g_aload_n F dX7_of_122 0 rfl rfl ?_
        refine G_X7_51 F dX7_of_123 ?_
        refine g_iload_n F dX7_of_126 1 rfl rfl ?_
        obtain ⟨hI20, hX⟩ := inb hX
        refine AL_10 F hI20 dX7_of_127 ?_
        refine g_iconst (v := 2) F dX7_of_128 (by decide) ?_
        refine g_icmp_ne (tgt := 136) F dX7_of_129 (by decide) (fun c21 => ?_) (fun c21 => ?_)
        · have hX := if_f hX c21
          refine g_aload_n F dX7_of_136 0 rfl rfl ?_
          refine G_X7_51 F dX7_of_137 ?_
          refine g_iload_n F dX7_of_140 1 rfl rfl ?_
          obtain ⟨hI22, hX⟩ := inb hX
          refine AL_10 F hI22 dX7_of_141 ?_
          refine g_if_ne (tgt := 154) F dX7_of_142 (by decide) (fun c23 => ?_) (fun c23 => ?_)
          · have hX := if_f hX c23
            refine g_aload_n F dX7_of_154 0 rfl rfl ?_
            refine G_X7_54 F dX7_of_155 ?_
            refine g_iload_n F dX7_of_158 1 rfl rfl ?_
            obtain ⟨hI24, hX⟩ := inb hX
            refine AL_11 F hI24 dX7_of_159 ?_
            refine callX7_slotOf F ml_X7_202 ⟨Nat.le_of_ble_eq_true rfl, Nat.le_of_ble_eq_true rfl⟩ (Nat.le_of_ble_eq_true rfl) dX7_of_160 ?_
            exact g_retC (wf := wM Y q) F hr rfl hlk dX7_of_163 hX
          · have hX := if_t hX c23
            refine g_aload_n F dX7_of_145 0 rfl rfl ?_
            refine G_X7_54 F dX7_of_146 ?_
            refine g_iload_n F dX7_of_149 1 rfl rfl ?_
            obtain ⟨hI25, hX⟩ := inb hX
            refine AL_11 F hI25 dX7_of_150 ?_
            refine g_goto (tgt := 163) F dX7_of_151 (by decide) ?_
            exact g_retC (wf := wM Y q) F hr rfl hlk dX7_of_163 hX
        · have hX := if_t hX c21
          refine g_iconst (v := (-1)) F dX7_of_132 (by decide) ?_
          refine g_goto (tgt := 163) F dX7_of_133 (by decide) ?_
          exact g_retC (wf := wM Y q) F hr rfl hlk dX7_of_163 hX
      have hX := if_f hX c26
      refine g_tabOut (tgt := 164) F dX7_of_41 (tab_out6 c8 c10 c12 c17 c19 c26) (by decide) ?_
      refine g_aload_n F dX7_of_164 0 rfl rfl ?_
      refine g_iload_n F dX7_of_165 1 rfl rfl ?_
      obtain ⟨r27, w28, hc29, hX⟩ := bnd_s hX
      refine callX7_liesOn F hc29 ml_X7_205 ⟨Nat.le_of_ble_eq_true rfl, Nat.le_of_ble_eq_true rfl⟩ (Nat.le_of_ble_eq_true rfl) dX7_of_166 ?_
      exact g_retC (wf := wM Y q) F hr rfl hlk dX7_of_169 hX
    · have hX := if_f hX c6
      refine g_iconst (v := 0) F dX7_of_38 (by decide) ?_
      exact g_retC (wf := wM Y q) F hr rfl hlk dX7_of_39 hX
  have hX : (bnd (pX7_isBox a1 u) (fun r1 w2 => if r1 = 0 then (pX7_of_b28 a1 a2 1 w2) else (if (pX7_in a2 0 6) = 0 then (pX7_of_b28 a1 a2 2 w2) else (pX7_of_b28 a1 a2 0 w2)))) = some (r, u1) := hX
  refine g_aload_n F dX7_of_0 0 rfl rfl ?_
  refine g_aload_n F dX7_of_1 0 rfl rfl ?_
  refine g_iload_n F dX7_of_2 1 rfl rfl ?_
  obtain ⟨r1, w2, hc3, hX⟩ := bnd_s hX
  refine callX7_isBox F hc3 ml_X7_143 ⟨Nat.le_of_ble_eq_true rfl, Nat.le_of_ble_eq_true rfl⟩ (Nat.le_of_ble_eq_true rfl) dX7_of_3 ?_
  refine g_if_ne (tgt := 13) F dX7_of_6 (by decide) (fun c4 => ?_) (fun c4 => ?_)
  · have hX := if_f hX c4
    refine g_iload_n F dX7_of_13 2 rfl rfl ?_
    refine g_iconst (v := 0) F dX7_of_14 (by decide) ?_
    refine g_bipush (v := 6) F dX7_of_15 (by decide) ?_
    refine callX7_in F ml_X7_90 ⟨Nat.le_of_ble_eq_true rfl, Nat.le_of_ble_eq_true rfl⟩ (Nat.le_of_ble_eq_true rfl) dX7_of_17 ?_
    refine g_if_eq (tgt := 27) F dX7_of_20 (by decide) (fun c5 => ?_) (fun c5 => ?_)
    · have hX := if_t hX c5
      refine g_iconst (v := 2) F dX7_of_27 (by decide) ?_
      exact b28 a1 a2 2 w2 hX
    · have hX := if_f hX c5
      refine g_iconst (v := 0) F dX7_of_23 (by decide) ?_
      refine g_goto (tgt := 28) F dX7_of_24 (by decide) ?_
      exact b28 a1 a2 0 w2 hX
  · have hX := if_t hX c4
    refine g_iconst (v := 1) F dX7_of_9 (by decide) ?_
    refine g_goto (tgt := 28) F dX7_of_10 (by decide) ?_
    exact b28 a1 a2 1 w2 hX
theorem callX7_of {p : Program} {l : Launch} {e : Env} {R : Room} {s : State} {m : MethodId} {args : Array Value} {below : List Frame} {meth : Method} {c : Code} {D : va_G} {Y : Nat → ClassId} {A : Nat → Prop} {cc : ByteArray} {nL : Nat} {own : String} {Q : State → Prop} {pc : Nat} {lv : List (Nat × Value)} {rest : List Value} {q : Nat → Nat} {a1 a2 : Int32} {u u1 : St} {r : Int32} (F : Fx p s m args c D Y A cc nL own) (hX : pX7_of a1 a2 u = some (r, u1)) {index : Nat} (hml : Cond.methodLink own index yX7_of ∈ TBL) (hR : 2 + 1 ≤ R.frames ∧ 8 + (3 + 11) + 43 ≤ R.locals) (hcat : (rest.map fun v => v.category).sum ≤ 8) (hd : decode cc pc = .ok (.invokevirtual index, 3)) (kk : GW p l e R s m args below meth c D A nL 0 0 Q (wM Y q u1) (pc + 3) lv (.int r :: rest)) : GW p l e R s m args below meth c D A nL 0 0 Q (wM Y q u) pc lv (.int a2 :: .int a1 :: .ref (q 0) :: rest) := g_callVi (ws := wM Y q u) (n := 2) (q0 := 0) (As := [.int a1, .int a2]) F [] [] (kX7_of hX) (List.append_nil _).symm (List.append_nil _) (by unfold mOK; decide +kernel) rfl rfl cd_yX7_of hml im_yX7_of se_yX7_of in_X7 rfl rfl hR ⟨Nat.zero_le _, Nat.zero_le _⟩ rfl hcat hd kk
theorem dX7_at_0 : decode cX7_at 0 = .ok (.aload_n 0, 1) := by decide +kernel
theorem dX7_at_1 : decode cX7_at 1 = .ok (.iload_n 1, 1) := by decide +kernel
theorem dX7_at_2 : decode cX7_at 2 = .ok (.invokestatic 103, 3) := by decide +kernel
theorem dX7_at_5 : decode cX7_at 5 = .ok (.ifCond .eq 7, 3) := by decide +kernel
theorem dX7_at_8 : decode cX7_at 8 = .ok (.iconst 0, 1) := by decide +kernel
theorem dX7_at_9 : decode cX7_at 9 = .ok (.goto 4, 3) := by decide +kernel
theorem dX7_at_12 : decode cX7_at 12 = .ok (.iconst 1, 1) := by decide +kernel
theorem dX7_at_13 : decode cX7_at 13 = .ok (.putfield 87, 3) := by decide +kernel
theorem dX7_at_16 : decode cX7_at 16 = .ok (.aload_n 0, 1) := by decide +kernel
theorem dX7_at_17 : decode cX7_at 17 = .ok (.getfield 87, 3) := by decide +kernel
theorem dX7_at_20 : decode cX7_at 20 = .ok (.ifCond .le 7, 3) := by decide +kernel
theorem dX7_at_23 : decode cX7_at 23 = .ok (.iconst 0, 1) := by decide +kernel
theorem dX7_at_24 : decode cX7_at 24 = .ok (.goto 12, 3) := by decide +kernel
theorem dX7_at_27 : decode cX7_at 27 = .ok (.aload_n 0, 1) := by decide +kernel
theorem dX7_at_28 : decode cX7_at 28 = .ok (.getfield 7, 3) := by decide +kernel
theorem dX7_at_31 : decode cX7_at 31 = .ok (.iload_n 1, 1) := by decide +kernel
theorem dX7_at_32 : decode cX7_at 32 = .ok (.invokestatic 107, 3) := by decide +kernel
theorem dX7_at_35 : decode cX7_at 35 = .ok (.iaload, 1) := by decide +kernel
theorem dX7_at_36 : decode cX7_at 36 = .ok (.ireturn, 1) := by decide +kernel
def pX7_at_b13  (x1 : Int32) (y0 : Int32) (v : St) : Option (Int32 × St) := if ((sS v 0 y0).2 0) ≤ 0 then (if (pX7_indexOf x1 < 0 ∨ 72 ≤ (pX7_indexOf x1).toNatClampNeg) then none else (some ((sS v 0 y0).1 0 (pX7_indexOf x1).toNatClampNeg, sS v 0 y0))) else (some (0, sS v 0 y0))
def pX7_at (a1 : Int32) (u : St) : Option (Int32 × St) := if (pX7_isSlot a1) = 0 then (pX7_at_b13 a1 1 u) else (pX7_at_b13 a1 0 u)
set_option maxHeartbeats 4000000 in
set_option maxRecDepth 20000 in
theorem kX7_at {l : Launch} {D : va_G} {Y : Nat → ClassId} {q : Nat → Nat} {a1 : Int32} {u u1 : St} {r : Int32} (hX : pX7_at a1 u = some (r, u1)) : CMi l yX7_at cX7_at 2 (some .int) 2 42 D Y (wM Y q u) (wM Y q u1) [.ref (q 0), .int a1] r := by
  refine cm_ofi (by decide) (Nat.le_of_ble_eq_true rfl) rfl (fun p e s m args below meth c A F hr hlk => ?_)
  show GW p l e { frames := 2, cells := 0, slots := 0, locals := 42 } s m args below meth c D A 2 0 0 (MQ below (QI D (wM Y q u1) r A) args s 0 0 A) (wM Y q u) 0 [(0, .ref (q 0)), (1, .int a1)] []
  have b13 : ∀  (x1 : Int32) (y0 : Int32) (v : St), pX7_at_b13  x1 y0 v = some (r, u1) → GW p l e { frames := 2, cells := 0, slots := 0, locals := 42 } s m args below meth c D A 2 0 0 (MQ below (QI D (wM Y q u1) r A) args s 0 0 A) (wM Y q v) 13 [(0, .ref (q 0)), (1, .int x1)] [.int y0, .ref (q 0)] := by
    intro  x1 y0 v hX
    have hX : (if ((sS v 0 y0).2 0) ≤ 0 then (if (pX7_indexOf x1 < 0 ∨ 72 ≤ (pX7_indexOf x1).toNatClampNeg) then none else (some ((sS v 0 y0).1 0 (pX7_indexOf x1).toNatClampNeg, sS v 0 y0))) else (some (0, sS v 0 y0))) = some (r, u1) := hX
    refine P_X7_87 F dX7_at_13 ?_
    refine g_aload_n F dX7_at_16 0 rfl rfl ?_
    refine G_X7_87 F dX7_at_17 ?_
    refine g_if_le (tgt := 27) F dX7_at_20 (by decide) (fun c2 => ?_) (fun c2 => ?_)
    · have hX := if_t hX c2
      refine g_aload_n F dX7_at_27 0 rfl rfl ?_
      refine G_X7_7 F dX7_at_28 ?_
      refine g_iload_n F dX7_at_31 1 rfl rfl ?_
      refine callX7_indexOf F ml_X7_107 ⟨Nat.le_of_ble_eq_true rfl, Nat.le_of_ble_eq_true rfl⟩ (Nat.le_of_ble_eq_true rfl) dX7_at_32 ?_
      obtain ⟨hI3, hX⟩ := inb hX
      refine AL_0 F hI3 dX7_at_35 ?_
      exact g_retC (wf := wM Y q) F hr rfl hlk dX7_at_36 hX
    · have hX := if_f hX c2
      refine g_iconst (v := 0) F dX7_at_23 (by decide) ?_
      refine g_goto (tgt := 36) F dX7_at_24 (by decide) ?_
      exact g_retC (wf := wM Y q) F hr rfl hlk dX7_at_36 hX
  have hX : (if (pX7_isSlot a1) = 0 then (pX7_at_b13 a1 1 u) else (pX7_at_b13 a1 0 u)) = some (r, u1) := hX
  refine g_aload_n F dX7_at_0 0 rfl rfl ?_
  refine g_iload_n F dX7_at_1 1 rfl rfl ?_
  refine callX7_isSlot F ml_X7_103 ⟨Nat.le_of_ble_eq_true rfl, Nat.le_of_ble_eq_true rfl⟩ (Nat.le_of_ble_eq_true rfl) dX7_at_2 ?_
  refine g_if_eq (tgt := 12) F dX7_at_5 (by decide) (fun c1 => ?_) (fun c1 => ?_)
  · have hX := if_t hX c1
    refine g_iconst (v := 1) F dX7_at_12 (by decide) ?_
    exact b13 a1 1 u hX
  · have hX := if_f hX c1
    refine g_iconst (v := 0) F dX7_at_8 (by decide) ?_
    refine g_goto (tgt := 13) F dX7_at_9 (by decide) ?_
    exact b13 a1 0 u hX
theorem callX7_at {p : Program} {l : Launch} {e : Env} {R : Room} {s : State} {m : MethodId} {args : Array Value} {below : List Frame} {meth : Method} {c : Code} {D : va_G} {Y : Nat → ClassId} {A : Nat → Prop} {cc : ByteArray} {nL : Nat} {own : String} {Q : State → Prop} {pc : Nat} {lv : List (Nat × Value)} {rest : List Value} {q : Nat → Nat} {a1 : Int32} {u u1 : St} {r : Int32} (F : Fx p s m args c D Y A cc nL own) (hX : pX7_at a1 u = some (r, u1)) {index : Nat} (hml : Cond.methodLink own index yX7_at ∈ TBL) (hR : 2 + 1 ≤ R.frames ∧ 8 + (2 + 11) + 42 ≤ R.locals) (hcat : (rest.map fun v => v.category).sum ≤ 8) (hd : decode cc pc = .ok (.invokevirtual index, 3)) (kk : GW p l e R s m args below meth c D A nL 0 0 Q (wM Y q u1) (pc + 3) lv (.int r :: rest)) : GW p l e R s m args below meth c D A nL 0 0 Q (wM Y q u) pc lv (.int a1 :: .ref (q 0) :: rest) := g_callVi (ws := wM Y q u) (n := 1) (q0 := 0) (As := [.int a1]) F [] [] (kX7_at hX) (List.append_nil _).symm (List.append_nil _) (by unfold mOK; decide +kernel) rfl rfl cd_yX7_at hml im_yX7_at se_yX7_at in_X7 rfl rfl hR ⟨Nat.zero_le _, Nat.zero_le _⟩ rfl hcat hd kk
theorem dX7_inYard_0 : decode cX7_inYard 0 = .ok (.aload_n 0, 1) := by decide +kernel
theorem dX7_inYard_1 : decode cX7_inYard 1 = .ok (.iload_n 1, 1) := by decide +kernel
theorem dX7_inYard_2 : decode cX7_inYard 2 = .ok (.invokestatic 133, 3) := by decide +kernel
theorem dX7_inYard_5 : decode cX7_inYard 5 = .ok (.ifCond .eq 11, 3) := by decide +kernel
theorem dX7_inYard_8 : decode cX7_inYard 8 = .ok (.iload_n 2, 1) := by decide +kernel
theorem dX7_inYard_9 : decode cX7_inYard 9 = .ok (.ifCond .lt 7, 3) := by decide +kernel
theorem dX7_inYard_12 : decode cX7_inYard 12 = .ok (.iconst 0, 1) := by decide +kernel
theorem dX7_inYard_13 : decode cX7_inYard 13 = .ok (.goto 4, 3) := by decide +kernel
theorem dX7_inYard_16 : decode cX7_inYard 16 = .ok (.iconst 1, 1) := by decide +kernel
theorem dX7_inYard_17 : decode cX7_inYard 17 = .ok (.putfield 87, 3) := by decide +kernel
theorem dX7_inYard_20 : decode cX7_inYard 20 = .ok (.aload_n 0, 1) := by decide +kernel
theorem dX7_inYard_21 : decode cX7_inYard 21 = .ok (.getfield 87, 3) := by decide +kernel
theorem dX7_inYard_24 : decode cX7_inYard 24 = .ok (.ifCond .le 5, 3) := by decide +kernel
theorem dX7_inYard_27 : decode cX7_inYard 27 = .ok (.iconst 0, 1) := by decide +kernel
theorem dX7_inYard_28 : decode cX7_inYard 28 = .ok (.ireturn, 1) := by decide +kernel
theorem dX7_inYard_29 : decode cX7_inYard 29 = .ok (.iload_n 2, 1) := by decide +kernel
theorem dX7_inYard_30 : decode cX7_inYard 30 = .ok (.aload_n 0, 1) := by decide +kernel
theorem dX7_inYard_31 : decode cX7_inYard 31 = .ok (.getfield 57, 3) := by decide +kernel
theorem dX7_inYard_34 : decode cX7_inYard 34 = .ok (.iload_n 1, 1) := by decide +kernel
theorem dX7_inYard_35 : decode cX7_inYard 35 = .ok (.iaload, 1) := by decide +kernel
theorem dX7_inYard_36 : decode cX7_inYard 36 = .ok (.if_icmp .ge 16, 3) := by decide +kernel
theorem dX7_inYard_39 : decode cX7_inYard 39 = .ok (.aload_n 0, 1) := by decide +kernel
theorem dX7_inYard_40 : decode cX7_inYard 40 = .ok (.getfield 60, 3) := by decide +kernel
theorem dX7_inYard_43 : decode cX7_inYard 43 = .ok (.iconst 4, 1) := by decide +kernel
theorem dX7_inYard_44 : decode cX7_inYard 44 = .ok (.iload_n 1, 1) := by decide +kernel
theorem dX7_inYard_45 : decode cX7_inYard 45 = .ok (.imul, 1) := by decide +kernel
theorem dX7_inYard_46 : decode cX7_inYard 46 = .ok (.iload_n 2, 1) := by decide +kernel
theorem dX7_inYard_47 : decode cX7_inYard 47 = .ok (.iadd, 1) := by decide +kernel
theorem dX7_inYard_48 : decode cX7_inYard 48 = .ok (.iaload, 1) := by decide +kernel
theorem dX7_inYard_49 : decode cX7_inYard 49 = .ok (.goto 4, 3) := by decide +kernel
theorem dX7_inYard_52 : decode cX7_inYard 52 = .ok (.iconst (-1), 1) := by decide +kernel
theorem dX7_inYard_53 : decode cX7_inYard 53 = .ok (.ireturn, 1) := by decide +kernel
def pX7_inYard_b17  (x1 : Int32) (x2 : Int32) (y0 : Int32) (v : St) : Option (Int32 × St) := if ((sS v 0 y0).2 0) ≤ 0 then (if (x1 < 0 ∨ 10 ≤ x1.toNatClampNeg) then none else (if ((sS v 0 y0).1 12 x1.toNatClampNeg) ≤ x2 then (some ((-1), sS v 0 y0)) else (if ((4 * x1) + x2 < 0 ∨ 40 ≤ ((4 * x1) + x2).toNatClampNeg) then none else (some ((sS v 0 y0).1 13 ((4 * x1) + x2).toNatClampNeg, sS v 0 y0))))) else (some (0, sS v 0 y0))
def pX7_inYard_b16  (x1 : Int32) (x2 : Int32) (v : St) : Option (Int32 × St) := pX7_inYard_b17 x1 x2 1 v
def pX7_inYard (a1 : Int32) (a2 : Int32) (u : St) : Option (Int32 × St) := if (pX7_isStack a1) = 0 then (pX7_inYard_b16 a1 a2 u) else (if a2 < 0 then (pX7_inYard_b16 a1 a2 u) else (pX7_inYard_b17 a1 a2 0 u))
set_option maxHeartbeats 4000000 in
set_option maxRecDepth 20000 in
theorem kX7_inYard {l : Launch} {D : va_G} {Y : Nat → ClassId} {q : Nat → Nat} {a1 a2 : Int32} {u u1 : St} {r : Int32} (hX : pX7_inYard a1 a2 u = some (r, u1)) : CMi l yX7_inYard cX7_inYard 3 (some .int) 2 42 D Y (wM Y q u) (wM Y q u1) [.ref (q 0), .int a1, .int a2] r := by
  refine cm_ofi (by decide) (Nat.le_of_ble_eq_true rfl) rfl (fun p e s m args below meth c A F hr hlk => ?_)
  show GW p l e { frames := 2, cells := 0, slots := 0, locals := 42 } s m args below meth c D A 3 0 0 (MQ below (QI D (wM Y q u1) r A) args s 0 0 A) (wM Y q u) 0 [(0, .ref (q 0)), (1, .int a1), (2, .int a2)] []
  have b17 : ∀  (x1 : Int32) (x2 : Int32) (y0 : Int32) (v : St), pX7_inYard_b17  x1 x2 y0 v = some (r, u1) → GW p l e { frames := 2, cells := 0, slots := 0, locals := 42 } s m args below meth c D A 3 0 0 (MQ below (QI D (wM Y q u1) r A) args s 0 0 A) (wM Y q v) 17 [(0, .ref (q 0)), (1, .int x1), (2, .int x2)] [.int y0, .ref (q 0)] := by
    intro  x1 x2 y0 v hX
    have hX : (if ((sS v 0 y0).2 0) ≤ 0 then (if (x1 < 0 ∨ 10 ≤ x1.toNatClampNeg) then none else (if ((sS v 0 y0).1 12 x1.toNatClampNeg) ≤ x2 then (some ((-1), sS v 0 y0)) else (if ((4 * x1) + x2 < 0 ∨ 40 ≤ ((4 * x1) + x2).toNatClampNeg) then none else (some ((sS v 0 y0).1 13 ((4 * x1) + x2).toNatClampNeg, sS v 0 y0))))) else (some (0, sS v 0 y0))) = some (r, u1) := hX
    refine P_X7_87 F dX7_inYard_17 ?_
    refine g_aload_n F dX7_inYard_20 0 rfl rfl ?_
    refine G_X7_87 F dX7_inYard_21 ?_
    refine g_if_le (tgt := 29) F dX7_inYard_24 (by decide) (fun c2 => ?_) (fun c2 => ?_)
    · have hX := if_t hX c2
      refine g_iload_n F dX7_inYard_29 2 rfl rfl ?_
      refine g_aload_n F dX7_inYard_30 0 rfl rfl ?_
      refine G_X7_57 F dX7_inYard_31 ?_
      refine g_iload_n F dX7_inYard_34 1 rfl rfl ?_
      obtain ⟨hI3, hX⟩ := inb hX
      refine AL_12 F hI3 dX7_inYard_35 ?_
      refine g_icmp_ge (tgt := 52) F dX7_inYard_36 (by decide) (fun c4 => ?_) (fun c4 => ?_)
      · have hX := if_t hX c4
        refine g_iconst (v := (-1)) F dX7_inYard_52 (by decide) ?_
        exact g_retC (wf := wM Y q) F hr rfl hlk dX7_inYard_53 hX
      · have hX := if_f hX c4
        refine g_aload_n F dX7_inYard_39 0 rfl rfl ?_
        refine G_X7_60 F dX7_inYard_40 ?_
        refine g_iconst (v := 4) F dX7_inYard_43 (by decide) ?_
        refine g_iload_n F dX7_inYard_44 1 rfl rfl ?_
        refine g_imul F dX7_inYard_45 ?_
        refine g_iload_n F dX7_inYard_46 2 rfl rfl ?_
        refine g_iadd F dX7_inYard_47 ?_
        obtain ⟨hI5, hX⟩ := inb hX
        refine AL_13 F hI5 dX7_inYard_48 ?_
        refine g_goto (tgt := 53) F dX7_inYard_49 (by decide) ?_
        exact g_retC (wf := wM Y q) F hr rfl hlk dX7_inYard_53 hX
    · have hX := if_f hX c2
      refine g_iconst (v := 0) F dX7_inYard_27 (by decide) ?_
      exact g_retC (wf := wM Y q) F hr rfl hlk dX7_inYard_28 hX
  have b16 : ∀  (x1 : Int32) (x2 : Int32) (v : St), pX7_inYard_b16  x1 x2 v = some (r, u1) → GW p l e { frames := 2, cells := 0, slots := 0, locals := 42 } s m args below meth c D A 3 0 0 (MQ below (QI D (wM Y q u1) r A) args s 0 0 A) (wM Y q v) 16 [(0, .ref (q 0)), (1, .int x1), (2, .int x2)] [.ref (q 0)] := by
    intro  x1 x2 v hX
    have hX : (pX7_inYard_b17 x1 x2 1 v) = some (r, u1) := hX
    refine g_iconst (v := 1) F dX7_inYard_16 (by decide) ?_
    exact b17 x1 x2 1 v hX
  have hX : (if (pX7_isStack a1) = 0 then (pX7_inYard_b16 a1 a2 u) else (if a2 < 0 then (pX7_inYard_b16 a1 a2 u) else (pX7_inYard_b17 a1 a2 0 u))) = some (r, u1) := hX
  refine g_aload_n F dX7_inYard_0 0 rfl rfl ?_
  refine g_iload_n F dX7_inYard_1 1 rfl rfl ?_
  refine callX7_isStack F ml_X7_133 ⟨Nat.le_of_ble_eq_true rfl, Nat.le_of_ble_eq_true rfl⟩ (Nat.le_of_ble_eq_true rfl) dX7_inYard_2 ?_
  refine g_if_eq (tgt := 16) F dX7_inYard_5 (by decide) (fun c1 => ?_) (fun c1 => ?_)
  · have hX := if_t hX c1
    exact b16 a1 a2 u hX
  · have hX := if_f hX c1
    refine g_iload_n F dX7_inYard_8 2 rfl rfl ?_
    refine g_if_lt (tgt := 16) F dX7_inYard_9 (by decide) (fun c6 => ?_) (fun c6 => ?_)
    · have hX := if_t hX c6
      exact b16 a1 a2 u hX
    · have hX := if_f hX c6
      refine g_iconst (v := 0) F dX7_inYard_12 (by decide) ?_
      refine g_goto (tgt := 17) F dX7_inYard_13 (by decide) ?_
      exact b17 a1 a2 0 u hX
theorem callX7_inYard {p : Program} {l : Launch} {e : Env} {R : Room} {s : State} {m : MethodId} {args : Array Value} {below : List Frame} {meth : Method} {c : Code} {D : va_G} {Y : Nat → ClassId} {A : Nat → Prop} {cc : ByteArray} {nL : Nat} {own : String} {Q : State → Prop} {pc : Nat} {lv : List (Nat × Value)} {rest : List Value} {q : Nat → Nat} {a1 a2 : Int32} {u u1 : St} {r : Int32} (F : Fx p s m args c D Y A cc nL own) (hX : pX7_inYard a1 a2 u = some (r, u1)) {index : Nat} (hml : Cond.methodLink own index yX7_inYard ∈ TBL) (hR : 2 + 1 ≤ R.frames ∧ 8 + (3 + 11) + 42 ≤ R.locals) (hcat : (rest.map fun v => v.category).sum ≤ 8) (hd : decode cc pc = .ok (.invokevirtual index, 3)) (kk : GW p l e R s m args below meth c D A nL 0 0 Q (wM Y q u1) (pc + 3) lv (.int r :: rest)) : GW p l e R s m args below meth c D A nL 0 0 Q (wM Y q u) pc lv (.int a2 :: .int a1 :: .ref (q 0) :: rest) := g_callVi (ws := wM Y q u) (n := 2) (q0 := 0) (As := [.int a1, .int a2]) F [] [] (kX7_inYard hX) (List.append_nil _).symm (List.append_nil _) (by unfold mOK; decide +kernel) rfl rfl cd_yX7_inYard hml im_yX7_inYard se_yX7_inYard in_X7 rfl rfl hR ⟨Nat.zero_le _, Nat.zero_le _⟩ rfl hcat hd kk
theorem dX7_hatch_0 : decode cX7_hatch 0 = .ok (.aload_n 0, 1) := by decide +kernel
theorem dX7_hatch_1 : decode cX7_hatch 1 = .ok (.iload_n 1, 1) := by decide +kernel
theorem dX7_hatch_2 : decode cX7_hatch 2 = .ok (.invokestatic 111, 3) := by decide +kernel
theorem dX7_hatch_5 : decode cX7_hatch 5 = .ok (.ifCond .eq 7, 3) := by decide +kernel
theorem dX7_hatch_8 : decode cX7_hatch 8 = .ok (.iconst 0, 1) := by decide +kernel
theorem dX7_hatch_9 : decode cX7_hatch 9 = .ok (.goto 4, 3) := by decide +kernel
theorem dX7_hatch_12 : decode cX7_hatch 12 = .ok (.iconst 1, 1) := by decide +kernel
theorem dX7_hatch_13 : decode cX7_hatch 13 = .ok (.putfield 87, 3) := by decide +kernel
theorem dX7_hatch_16 : decode cX7_hatch 16 = .ok (.aload_n 0, 1) := by decide +kernel
theorem dX7_hatch_17 : decode cX7_hatch 17 = .ok (.getfield 87, 3) := by decide +kernel
theorem dX7_hatch_20 : decode cX7_hatch 20 = .ok (.ifCond .le 7, 3) := by decide +kernel
theorem dX7_hatch_23 : decode cX7_hatch 23 = .ok (.iconst 0, 1) := by decide +kernel
theorem dX7_hatch_24 : decode cX7_hatch 24 = .ok (.goto 36, 3) := by decide +kernel
theorem dX7_hatch_27 : decode cX7_hatch 27 = .ok (.aload_n 0, 1) := by decide +kernel
theorem dX7_hatch_28 : decode cX7_hatch 28 = .ok (.getfield 17, 3) := by decide +kernel
theorem dX7_hatch_31 : decode cX7_hatch 31 = .ok (.iload_n 1, 1) := by decide +kernel
theorem dX7_hatch_32 : decode cX7_hatch 32 = .ok (.baload, 1) := by decide +kernel
theorem dX7_hatch_33 : decode cX7_hatch 33 = .ok (.ifCond .eq 7, 3) := by decide +kernel
theorem dX7_hatch_36 : decode cX7_hatch 36 = .ok (.iconst 1, 1) := by decide +kernel
theorem dX7_hatch_37 : decode cX7_hatch 37 = .ok (.goto 4, 3) := by decide +kernel
theorem dX7_hatch_40 : decode cX7_hatch 40 = .ok (.iconst 0, 1) := by decide +kernel
theorem dX7_hatch_41 : decode cX7_hatch 41 = .ok (.aload_n 0, 1) := by decide +kernel
theorem dX7_hatch_42 : decode cX7_hatch 42 = .ok (.getfield 114, 3) := by decide +kernel
theorem dX7_hatch_45 : decode cX7_hatch 45 = .ok (.aload_n 0, 1) := by decide +kernel
theorem dX7_hatch_46 : decode cX7_hatch 46 = .ok (.getfield 20, 3) := by decide +kernel
theorem dX7_hatch_49 : decode cX7_hatch 49 = .ok (.iload_n 1, 1) := by decide +kernel
theorem dX7_hatch_50 : decode cX7_hatch 50 = .ok (.iaload, 1) := by decide +kernel
theorem dX7_hatch_51 : decode cX7_hatch 51 = .ok (.if_icmp .ge 7, 3) := by decide +kernel
theorem dX7_hatch_54 : decode cX7_hatch 54 = .ok (.iconst 2, 1) := by decide +kernel
theorem dX7_hatch_55 : decode cX7_hatch 55 = .ok (.goto 4, 3) := by decide +kernel
theorem dX7_hatch_58 : decode cX7_hatch 58 = .ok (.iconst 0, 1) := by decide +kernel
theorem dX7_hatch_59 : decode cX7_hatch 59 = .ok (.iadd, 1) := by decide +kernel
theorem dX7_hatch_60 : decode cX7_hatch 60 = .ok (.ireturn, 1) := by decide +kernel
def pX7_hatch_b59  (y0 : Int32) (y1 : Int32) (v : St) : Option (Int32 × St) := some (y1 + y0, v)
def pX7_hatch_b41  (x1 : Int32) (y0 : Int32) (v : St) : Option (Int32 × St) := if (x1 < 0 ∨ 6 ≤ x1.toNatClampNeg) then none else (if (v.1 3 x1.toNatClampNeg) ≤ (v.2 7) then (pX7_hatch_b59 0 y0 v) else (pX7_hatch_b59 2 y0 v))
def pX7_hatch_b13  (x1 : Int32) (y0 : Int32) (v : St) : Option (Int32 × St) := if ((sS v 0 y0).2 0) ≤ 0 then (if (x1 < 0 ∨ 6 ≤ x1.toNatClampNeg) then none else (if ((sS v 0 y0).1 2 x1.toNatClampNeg) = 0 then (pX7_hatch_b41 x1 0 (sS v 0 y0)) else (pX7_hatch_b41 x1 1 (sS v 0 y0)))) else (some (0, sS v 0 y0))
def pX7_hatch (a1 : Int32) (u : St) : Option (Int32 × St) := if (pX7_isBay a1) = 0 then (pX7_hatch_b13 a1 1 u) else (pX7_hatch_b13 a1 0 u)
set_option maxHeartbeats 4000000 in
set_option maxRecDepth 20000 in
theorem kX7_hatch {l : Launch} {D : va_G} {Y : Nat → ClassId} {q : Nat → Nat} {a1 : Int32} {u u1 : St} {r : Int32} (hX : pX7_hatch a1 u = some (r, u1)) : CMi l yX7_hatch cX7_hatch 2 (some .int) 2 42 D Y (wM Y q u) (wM Y q u1) [.ref (q 0), .int a1] r := by
  refine cm_ofi (by decide) (Nat.le_of_ble_eq_true rfl) rfl (fun p e s m args below meth c A F hr hlk => ?_)
  show GW p l e { frames := 2, cells := 0, slots := 0, locals := 42 } s m args below meth c D A 2 0 0 (MQ below (QI D (wM Y q u1) r A) args s 0 0 A) (wM Y q u) 0 [(0, .ref (q 0)), (1, .int a1)] []
  have b59 : ∀  (y0 : Int32) (y1 : Int32) (v : St), pX7_hatch_b59  y0 y1 v = some (r, u1) → GW p l e { frames := 2, cells := 0, slots := 0, locals := 42 } s m args below meth c D A 2 0 0 (MQ below (QI D (wM Y q u1) r A) args s 0 0 A) (wM Y q v) 59 [] [.int y0, .int y1] := by
    intro  y0 y1 v hX
    have hX : (some (y1 + y0, v)) = some (r, u1) := hX
    refine g_iadd F dX7_hatch_59 ?_
    exact g_retC (wf := wM Y q) F hr rfl hlk dX7_hatch_60 hX
  have b41 : ∀  (x1 : Int32) (y0 : Int32) (v : St), pX7_hatch_b41  x1 y0 v = some (r, u1) → GW p l e { frames := 2, cells := 0, slots := 0, locals := 42 } s m args below meth c D A 2 0 0 (MQ below (QI D (wM Y q u1) r A) args s 0 0 A) (wM Y q v) 41 [(0, .ref (q 0)), (1, .int x1)] [.int y0] := by
    intro  x1 y0 v hX
    have hX : (if (x1 < 0 ∨ 6 ≤ x1.toNatClampNeg) then none else (if (v.1 3 x1.toNatClampNeg) ≤ (v.2 7) then (pX7_hatch_b59 0 y0 v) else (pX7_hatch_b59 2 y0 v))) = some (r, u1) := hX
    refine g_aload_n F dX7_hatch_41 0 rfl rfl ?_
    refine G_X7_114 F dX7_hatch_42 ?_
    refine g_aload_n F dX7_hatch_45 0 rfl rfl ?_
    refine G_X7_20 F dX7_hatch_46 ?_
    refine g_iload_n F dX7_hatch_49 1 rfl rfl ?_
    obtain ⟨hI5, hX⟩ := inb hX
    refine AL_3 F hI5 dX7_hatch_50 ?_
    refine g_icmp_ge (tgt := 58) F dX7_hatch_51 (by decide) (fun c6 => ?_) (fun c6 => ?_)
    · have hX := if_t hX c6
      refine g_iconst (v := 0) F dX7_hatch_58 (by decide) ?_
      refine g_sub [] rfl ?_
      exact b59 0 y0 v hX
    · have hX := if_f hX c6
      refine g_iconst (v := 2) F dX7_hatch_54 (by decide) ?_
      refine g_goto (tgt := 59) F dX7_hatch_55 (by decide) ?_
      refine g_sub [] rfl ?_
      exact b59 2 y0 v hX
  have b13 : ∀  (x1 : Int32) (y0 : Int32) (v : St), pX7_hatch_b13  x1 y0 v = some (r, u1) → GW p l e { frames := 2, cells := 0, slots := 0, locals := 42 } s m args below meth c D A 2 0 0 (MQ below (QI D (wM Y q u1) r A) args s 0 0 A) (wM Y q v) 13 [(0, .ref (q 0)), (1, .int x1)] [.int y0, .ref (q 0)] := by
    intro  x1 y0 v hX
    have hX : (if ((sS v 0 y0).2 0) ≤ 0 then (if (x1 < 0 ∨ 6 ≤ x1.toNatClampNeg) then none else (if ((sS v 0 y0).1 2 x1.toNatClampNeg) = 0 then (pX7_hatch_b41 x1 0 (sS v 0 y0)) else (pX7_hatch_b41 x1 1 (sS v 0 y0)))) else (some (0, sS v 0 y0))) = some (r, u1) := hX
    refine P_X7_87 F dX7_hatch_13 ?_
    refine g_aload_n F dX7_hatch_16 0 rfl rfl ?_
    refine G_X7_87 F dX7_hatch_17 ?_
    refine g_if_le (tgt := 27) F dX7_hatch_20 (by decide) (fun c2 => ?_) (fun c2 => ?_)
    · have hX := if_t hX c2
      refine g_aload_n F dX7_hatch_27 0 rfl rfl ?_
      refine G_X7_17 F dX7_hatch_28 ?_
      refine g_iload_n F dX7_hatch_31 1 rfl rfl ?_
      obtain ⟨hI3, hX⟩ := inb hX
      refine AL_2 F hI3 dX7_hatch_32 ?_
      refine g_if_eq (tgt := 40) F dX7_hatch_33 (by decide) (fun c4 => ?_) (fun c4 => ?_)
      · have hX := if_t hX c4
        refine g_iconst (v := 0) F dX7_hatch_40 (by decide) ?_
        exact b41 x1 0 (sS v 0 y0) hX
      · have hX := if_f hX c4
        refine g_iconst (v := 1) F dX7_hatch_36 (by decide) ?_
        refine g_goto (tgt := 41) F dX7_hatch_37 (by decide) ?_
        exact b41 x1 1 (sS v 0 y0) hX
    · have hX := if_f hX c2
      refine g_iconst (v := 0) F dX7_hatch_23 (by decide) ?_
      refine g_goto (tgt := 60) F dX7_hatch_24 (by decide) ?_
      exact g_retC (wf := wM Y q) F hr rfl hlk dX7_hatch_60 hX
  have hX : (if (pX7_isBay a1) = 0 then (pX7_hatch_b13 a1 1 u) else (pX7_hatch_b13 a1 0 u)) = some (r, u1) := hX
  refine g_aload_n F dX7_hatch_0 0 rfl rfl ?_
  refine g_iload_n F dX7_hatch_1 1 rfl rfl ?_
  refine callX7_isBay F ml_X7_111 ⟨Nat.le_of_ble_eq_true rfl, Nat.le_of_ble_eq_true rfl⟩ (Nat.le_of_ble_eq_true rfl) dX7_hatch_2 ?_
  refine g_if_eq (tgt := 12) F dX7_hatch_5 (by decide) (fun c1 => ?_) (fun c1 => ?_)
  · have hX := if_t hX c1
    refine g_iconst (v := 1) F dX7_hatch_12 (by decide) ?_
    exact b13 a1 1 u hX
  · have hX := if_f hX c1
    refine g_iconst (v := 0) F dX7_hatch_8 (by decide) ?_
    refine g_goto (tgt := 13) F dX7_hatch_9 (by decide) ?_
    exact b13 a1 0 u hX
theorem callX7_hatch {p : Program} {l : Launch} {e : Env} {R : Room} {s : State} {m : MethodId} {args : Array Value} {below : List Frame} {meth : Method} {c : Code} {D : va_G} {Y : Nat → ClassId} {A : Nat → Prop} {cc : ByteArray} {nL : Nat} {own : String} {Q : State → Prop} {pc : Nat} {lv : List (Nat × Value)} {rest : List Value} {q : Nat → Nat} {a1 : Int32} {u u1 : St} {r : Int32} (F : Fx p s m args c D Y A cc nL own) (hX : pX7_hatch a1 u = some (r, u1)) {index : Nat} (hml : Cond.methodLink own index yX7_hatch ∈ TBL) (hR : 2 + 1 ≤ R.frames ∧ 8 + (2 + 11) + 42 ≤ R.locals) (hcat : (rest.map fun v => v.category).sum ≤ 8) (hd : decode cc pc = .ok (.invokevirtual index, 3)) (kk : GW p l e R s m args below meth c D A nL 0 0 Q (wM Y q u1) (pc + 3) lv (.int r :: rest)) : GW p l e R s m args below meth c D A nL 0 0 Q (wM Y q u) pc lv (.int a1 :: .ref (q 0) :: rest) := g_callVi (ws := wM Y q u) (n := 1) (q0 := 0) (As := [.int a1]) F [] [] (kX7_hatch hX) (List.append_nil _).symm (List.append_nil _) (by unfold mOK; decide +kernel) rfl rfl cd_yX7_hatch hml im_yX7_hatch se_yX7_hatch in_X7 rfl rfl hR ⟨Nat.zero_le _, Nat.zero_le _⟩ rfl hcat hd kk
theorem dX7_moment_0 : decode cX7_moment 0 = .ok (.aload_n 0, 1) := by decide +kernel
theorem dX7_moment_1 : decode cX7_moment 1 = .ok (.iload_n 1, 1) := by decide +kernel
theorem dX7_moment_2 : decode cX7_moment 2 = .ok (.iconst 0, 1) := by decide +kernel
theorem dX7_moment_3 : decode cX7_moment 3 = .ok (.bipush 6, 2) := by decide +kernel
theorem dX7_moment_5 : decode cX7_moment 5 = .ok (.invokestatic 90, 3) := by decide +kernel
theorem dX7_moment_8 : decode cX7_moment 8 = .ok (.ifCond .eq 7, 3) := by decide +kernel
theorem dX7_moment_11 : decode cX7_moment 11 = .ok (.iconst 0, 1) := by decide +kernel
theorem dX7_moment_12 : decode cX7_moment 12 = .ok (.goto 4, 3) := by decide +kernel
theorem dX7_moment_15 : decode cX7_moment 15 = .ok (.iconst 1, 1) := by decide +kernel
theorem dX7_moment_16 : decode cX7_moment 16 = .ok (.putfield 87, 3) := by decide +kernel
theorem dX7_moment_19 : decode cX7_moment 19 = .ok (.aload_n 0, 1) := by decide +kernel
theorem dX7_moment_20 : decode cX7_moment 20 = .ok (.getfield 87, 3) := by decide +kernel
theorem dX7_moment_23 : decode cX7_moment 23 = .ok (.ifCond .le 7, 3) := by decide +kernel
theorem dX7_moment_26 : decode cX7_moment 26 = .ok (.iconst 0, 1) := by decide +kernel
theorem dX7_moment_27 : decode cX7_moment 27 = .ok (.goto 8, 3) := by decide +kernel
theorem dX7_moment_30 : decode cX7_moment 30 = .ok (.aload_n 0, 1) := by decide +kernel
theorem dX7_moment_31 : decode cX7_moment 31 = .ok (.iload_n 1, 1) := by decide +kernel
theorem dX7_moment_32 : decode cX7_moment 32 = .ok (.invokevirtual 208, 3) := by decide +kernel
theorem dX7_moment_35 : decode cX7_moment 35 = .ok (.ireturn, 1) := by decide +kernel
def pX7_moment_b16  (x1 : Int32) (y0 : Int32) (v : St) : Option (Int32 × St) := if ((sS v 0 y0).2 0) ≤ 0 then (bnd (pX7_momentOf x1 (sS v 0 y0)) (fun r3 w4 => some (r3, w4))) else (some (0, sS v 0 y0))
def pX7_moment (a1 : Int32) (u : St) : Option (Int32 × St) := if (pX7_in a1 0 6) = 0 then (pX7_moment_b16 a1 1 u) else (pX7_moment_b16 a1 0 u)
set_option maxHeartbeats 4000000 in
set_option maxRecDepth 20000 in
theorem kX7_moment {l : Launch} {D : va_G} {Y : Nat → ClassId} {q : Nat → Nat} {a1 : Int32} {u u1 : St} {r : Int32} (hX : pX7_moment a1 u = some (r, u1)) : CMi l yX7_moment cX7_moment 2 (some .int) 1 26 D Y (wM Y q u) (wM Y q u1) [.ref (q 0), .int a1] r := by
  refine cm_ofi (by decide) (Nat.le_of_ble_eq_true rfl) rfl (fun p e s m args below meth c A F hr hlk => ?_)
  show GW p l e { frames := 1, cells := 0, slots := 0, locals := 26 } s m args below meth c D A 2 0 0 (MQ below (QI D (wM Y q u1) r A) args s 0 0 A) (wM Y q u) 0 [(0, .ref (q 0)), (1, .int a1)] []
  have b16 : ∀  (x1 : Int32) (y0 : Int32) (v : St), pX7_moment_b16  x1 y0 v = some (r, u1) → GW p l e { frames := 1, cells := 0, slots := 0, locals := 26 } s m args below meth c D A 2 0 0 (MQ below (QI D (wM Y q u1) r A) args s 0 0 A) (wM Y q v) 16 [(0, .ref (q 0)), (1, .int x1)] [.int y0, .ref (q 0)] := by
    intro  x1 y0 v hX
    have hX : (if ((sS v 0 y0).2 0) ≤ 0 then (bnd (pX7_momentOf x1 (sS v 0 y0)) (fun r3 w4 => some (r3, w4))) else (some (0, sS v 0 y0))) = some (r, u1) := hX
    refine P_X7_87 F dX7_moment_16 ?_
    refine g_aload_n F dX7_moment_19 0 rfl rfl ?_
    refine G_X7_87 F dX7_moment_20 ?_
    refine g_if_le (tgt := 30) F dX7_moment_23 (by decide) (fun c2 => ?_) (fun c2 => ?_)
    · have hX := if_t hX c2
      refine g_aload_n F dX7_moment_30 0 rfl rfl ?_
      refine g_iload_n F dX7_moment_31 1 rfl rfl ?_
      obtain ⟨r3, w4, hc5, hX⟩ := bnd_s hX
      refine callX7_momentOf F hc5 ml_X7_208 ⟨Nat.le_of_ble_eq_true rfl, Nat.le_of_ble_eq_true rfl⟩ (Nat.le_of_ble_eq_true rfl) dX7_moment_32 ?_
      exact g_retC (wf := wM Y q) F hr rfl hlk dX7_moment_35 hX
    · have hX := if_f hX c2
      refine g_iconst (v := 0) F dX7_moment_26 (by decide) ?_
      refine g_goto (tgt := 35) F dX7_moment_27 (by decide) ?_
      exact g_retC (wf := wM Y q) F hr rfl hlk dX7_moment_35 hX
  have hX : (if (pX7_in a1 0 6) = 0 then (pX7_moment_b16 a1 1 u) else (pX7_moment_b16 a1 0 u)) = some (r, u1) := hX
  refine g_aload_n F dX7_moment_0 0 rfl rfl ?_
  refine g_iload_n F dX7_moment_1 1 rfl rfl ?_
  refine g_iconst (v := 0) F dX7_moment_2 (by decide) ?_
  refine g_bipush (v := 6) F dX7_moment_3 (by decide) ?_
  refine callX7_in F ml_X7_90 ⟨Nat.le_of_ble_eq_true rfl, Nat.le_of_ble_eq_true rfl⟩ (Nat.le_of_ble_eq_true rfl) dX7_moment_5 ?_
  refine g_if_eq (tgt := 15) F dX7_moment_8 (by decide) (fun c1 => ?_) (fun c1 => ?_)
  · have hX := if_t hX c1
    refine g_iconst (v := 1) F dX7_moment_15 (by decide) ?_
    exact b16 a1 1 u hX
  · have hX := if_f hX c1
    refine g_iconst (v := 0) F dX7_moment_11 (by decide) ?_
    refine g_goto (tgt := 16) F dX7_moment_12 (by decide) ?_
    exact b16 a1 0 u hX
theorem callX7_moment {p : Program} {l : Launch} {e : Env} {R : Room} {s : State} {m : MethodId} {args : Array Value} {below : List Frame} {meth : Method} {c : Code} {D : va_G} {Y : Nat → ClassId} {A : Nat → Prop} {cc : ByteArray} {nL : Nat} {own : String} {Q : State → Prop} {pc : Nat} {lv : List (Nat × Value)} {rest : List Value} {q : Nat → Nat} {a1 : Int32} {u u1 : St} {r : Int32} (F : Fx p s m args c D Y A cc nL own) (hX : pX7_moment a1 u = some (r, u1)) {index : Nat} (hml : Cond.methodLink own index yX7_moment ∈ TBL) (hR : 1 + 1 ≤ R.frames ∧ 8 + (2 + 11) + 26 ≤ R.locals) (hcat : (rest.map fun v => v.category).sum ≤ 8) (hd : decode cc pc = .ok (.invokevirtual index, 3)) (kk : GW p l e R s m args below meth c D A nL 0 0 Q (wM Y q u1) (pc + 3) lv (.int r :: rest)) : GW p l e R s m args below meth c D A nL 0 0 Q (wM Y q u) pc lv (.int a1 :: .ref (q 0) :: rest) := g_callVi (ws := wM Y q u) (n := 1) (q0 := 0) (As := [.int a1]) F [] [] (kX7_moment hX) (List.append_nil _).symm (List.append_nil _) (by unfold mOK; decide +kernel) rfl rfl cd_yX7_moment hml im_yX7_moment se_yX7_moment in_X7 rfl rfl hR ⟨Nat.zero_le _, Nat.zero_le _⟩ rfl hcat hd kk
theorem dX7_momentAnew_0 : decode cX7_momentAnew 0 = .ok (.aload_n 0, 1) := by decide +kernel
theorem dX7_momentAnew_1 : decode cX7_momentAnew 1 = .ok (.iload_n 1, 1) := by decide +kernel
theorem dX7_momentAnew_2 : decode cX7_momentAnew 2 = .ok (.invokevirtual 211, 3) := by decide +kernel
theorem dX7_momentAnew_5 : decode cX7_momentAnew 5 = .ok (.ireturn, 1) := by decide +kernel
def pX7_momentAnew (a1 : Int32) (u : St) : Option (Int32 × St) := bnd (pX7_moment a1 u) (fun r1 w2 => some (r1, w2))
set_option maxHeartbeats 4000000 in
set_option maxRecDepth 20000 in
theorem kX7_momentAnew {l : Launch} {D : va_G} {Y : Nat → ClassId} {q : Nat → Nat} {a1 : Int32} {u u1 : St} {r : Int32} (hX : pX7_momentAnew a1 u = some (r, u1)) : CMi l yX7_momentAnew cX7_momentAnew 2 (some .int) 2 47 D Y (wM Y q u) (wM Y q u1) [.ref (q 0), .int a1] r := by
  refine cm_ofi (by decide) (Nat.le_of_ble_eq_true rfl) rfl (fun p e s m args below meth c A F hr hlk => ?_)
  show GW p l e { frames := 2, cells := 0, slots := 0, locals := 47 } s m args below meth c D A 2 0 0 (MQ below (QI D (wM Y q u1) r A) args s 0 0 A) (wM Y q u) 0 [(0, .ref (q 0)), (1, .int a1)] []
  have hX : (bnd (pX7_moment a1 u) (fun r1 w2 => some (r1, w2))) = some (r, u1) := hX
  refine g_aload_n F dX7_momentAnew_0 0 rfl rfl ?_
  refine g_iload_n F dX7_momentAnew_1 1 rfl rfl ?_
  obtain ⟨r1, w2, hc3, hX⟩ := bnd_s hX
  refine callX7_moment F hc3 ml_X7_211 ⟨Nat.le_of_ble_eq_true rfl, Nat.le_of_ble_eq_true rfl⟩ (Nat.le_of_ble_eq_true rfl) dX7_momentAnew_2 ?_
  exact g_retC (wf := wM Y q) F hr rfl hlk dX7_momentAnew_5 hX
theorem callX7_momentAnew {p : Program} {l : Launch} {e : Env} {R : Room} {s : State} {m : MethodId} {args : Array Value} {below : List Frame} {meth : Method} {c : Code} {D : va_G} {Y : Nat → ClassId} {A : Nat → Prop} {cc : ByteArray} {nL : Nat} {own : String} {Q : State → Prop} {pc : Nat} {lv : List (Nat × Value)} {rest : List Value} {q : Nat → Nat} {a1 : Int32} {u u1 : St} {r : Int32} (F : Fx p s m args c D Y A cc nL own) (hX : pX7_momentAnew a1 u = some (r, u1)) {index : Nat} (hml : Cond.methodLink own index yX7_momentAnew ∈ TBL) (hR : 2 + 1 ≤ R.frames ∧ 8 + (2 + 11) + 47 ≤ R.locals) (hcat : (rest.map fun v => v.category).sum ≤ 8) (hd : decode cc pc = .ok (.invokevirtual index, 3)) (kk : GW p l e R s m args below meth c D A nL 0 0 Q (wM Y q u1) (pc + 3) lv (.int r :: rest)) : GW p l e R s m args below meth c D A nL 0 0 Q (wM Y q u) pc lv (.int a1 :: .ref (q 0) :: rest) := g_callVi (ws := wM Y q u) (n := 1) (q0 := 0) (As := [.int a1]) F [] [] (kX7_momentAnew hX) (List.append_nil _).symm (List.append_nil _) (by unfold mOK; decide +kernel) rfl rfl cd_yX7_momentAnew hml im_yX7_momentAnew se_yX7_momentAnew in_X7 rfl rfl hR ⟨Nat.zero_le _, Nat.zero_le _⟩ rfl hcat hd kk
theorem dX7_bars_0 : decode cX7_bars 0 = .ok (.aload_n 0, 1) := by decide +kernel
theorem dX7_bars_1 : decode cX7_bars 1 = .ok (.iconst 0, 1) := by decide +kernel
theorem dX7_bars_2 : decode cX7_bars 2 = .ok (.putfield 87, 3) := by decide +kernel
theorem dX7_bars_5 : decode cX7_bars 5 = .ok (.aload_n 0, 1) := by decide +kernel
theorem dX7_bars_6 : decode cX7_bars 6 = .ok (.invokevirtual 198, 3) := by decide +kernel
theorem dX7_bars_9 : decode cX7_bars 9 = .ok (.ireturn, 1) := by decide +kernel
def pX7_bars  (u : St) : Option (Int32 × St) := bnd (pX7_barsNow (sS u 0 0)) (fun r1 w2 => some (r1, w2))
set_option maxHeartbeats 4000000 in
set_option maxRecDepth 20000 in
theorem kX7_bars {l : Launch} {D : va_G} {Y : Nat → ClassId} {q : Nat → Nat} {u u1 : St} {r : Int32} (hX : pX7_bars u = some (r, u1)) : CMi l yX7_bars cX7_bars 1 (some .int) 2 50 D Y (wM Y q u) (wM Y q u1) [.ref (q 0)] r := by
  refine cm_ofi (by decide) (Nat.le_of_ble_eq_true rfl) rfl (fun p e s m args below meth c A F hr hlk => ?_)
  show GW p l e { frames := 2, cells := 0, slots := 0, locals := 50 } s m args below meth c D A 1 0 0 (MQ below (QI D (wM Y q u1) r A) args s 0 0 A) (wM Y q u) 0 [(0, .ref (q 0))] []
  have hX : (bnd (pX7_barsNow (sS u 0 0)) (fun r1 w2 => some (r1, w2))) = some (r, u1) := hX
  refine g_aload_n F dX7_bars_0 0 rfl rfl ?_
  refine g_iconst (v := 0) F dX7_bars_1 (by decide) ?_
  refine P_X7_87 F dX7_bars_2 ?_
  refine g_aload_n F dX7_bars_5 0 rfl rfl ?_
  obtain ⟨r1, w2, hc3, hX⟩ := bnd_s hX
  refine callX7_barsNow F hc3 ml_X7_198 ⟨Nat.le_of_ble_eq_true rfl, Nat.le_of_ble_eq_true rfl⟩ (Nat.le_of_ble_eq_true rfl) dX7_bars_6 ?_
  exact g_retC (wf := wM Y q) F hr rfl hlk dX7_bars_9 hX
theorem callX7_bars {p : Program} {l : Launch} {e : Env} {R : Room} {s : State} {m : MethodId} {args : Array Value} {below : List Frame} {meth : Method} {c : Code} {D : va_G} {Y : Nat → ClassId} {A : Nat → Prop} {cc : ByteArray} {nL : Nat} {own : String} {Q : State → Prop} {pc : Nat} {lv : List (Nat × Value)} {rest : List Value} {q : Nat → Nat} {u u1 : St} {r : Int32} (F : Fx p s m args c D Y A cc nL own) (hX : pX7_bars u = some (r, u1)) {index : Nat} (hml : Cond.methodLink own index yX7_bars ∈ TBL) (hR : 2 + 1 ≤ R.frames ∧ 8 + (1 + 11) + 50 ≤ R.locals) (hcat : (rest.map fun v => v.category).sum ≤ 8) (hd : decode cc pc = .ok (.invokevirtual index, 3)) (kk : GW p l e R s m args below meth c D A nL 0 0 Q (wM Y q u1) (pc + 3) lv (.int r :: rest)) : GW p l e R s m args below meth c D A nL 0 0 Q (wM Y q u) pc lv (.ref (q 0) :: rest) := g_callVi (ws := wM Y q u) (n := 0) (q0 := 0) (As := []) F [] [] (kX7_bars hX) (List.append_nil _).symm (List.append_nil _) (by unfold mOK; decide +kernel) rfl rfl cd_yX7_bars hml im_yX7_bars se_yX7_bars in_X7 rfl rfl hR ⟨Nat.zero_le _, Nat.zero_le _⟩ rfl hcat hd kk
theorem dX7_dig_0 : decode cX7_dig 0 = .ok (.aload_n 0, 1) := by decide +kernel
theorem dX7_dig_1 : decode cX7_dig 1 = .ok (.aload_n 0, 1) := by decide +kernel
theorem dX7_dig_2 : decode cX7_dig 2 = .ok (.iload_n 1, 1) := by decide +kernel
theorem dX7_dig_3 : decode cX7_dig 3 = .ok (.invokevirtual 143, 3) := by decide +kernel
theorem dX7_dig_6 : decode cX7_dig 6 = .ok (.ifCond .ne 7, 3) := by decide +kernel
theorem dX7_dig_9 : decode cX7_dig 9 = .ok (.iconst 1, 1) := by decide +kernel
theorem dX7_dig_10 : decode cX7_dig 10 = .ok (.goto 18, 3) := by decide +kernel
theorem dX7_dig_13 : decode cX7_dig 13 = .ok (.aload_n 0, 1) := by decide +kernel
theorem dX7_dig_14 : decode cX7_dig 14 = .ok (.getfield 51, 3) := by decide +kernel
theorem dX7_dig_17 : decode cX7_dig 17 = .ok (.iload_n 1, 1) := by decide +kernel
theorem dX7_dig_18 : decode cX7_dig 18 = .ok (.iaload, 1) := by decide +kernel
theorem dX7_dig_19 : decode cX7_dig 19 = .ok (.iconst 1, 1) := by decide +kernel
theorem dX7_dig_20 : decode cX7_dig 20 = .ok (.if_icmp .ne 7, 3) := by decide +kernel
theorem dX7_dig_23 : decode cX7_dig 23 = .ok (.iconst 0, 1) := by decide +kernel
theorem dX7_dig_24 : decode cX7_dig 24 = .ok (.goto 4, 3) := by decide +kernel
theorem dX7_dig_27 : decode cX7_dig 27 = .ok (.iconst 2, 1) := by decide +kernel
theorem dX7_dig_28 : decode cX7_dig 28 = .ok (.putfield 87, 3) := by decide +kernel
theorem dX7_dig_31 : decode cX7_dig 31 = .ok (.aload_n 0, 1) := by decide +kernel
theorem dX7_dig_32 : decode cX7_dig 32 = .ok (.getfield 87, 3) := by decide +kernel
theorem dX7_dig_35 : decode cX7_dig 35 = .ok (.ifCond .le 5, 3) := by decide +kernel
theorem dX7_dig_38 : decode cX7_dig 38 = .ok (.iconst 0, 1) := by decide +kernel
theorem dX7_dig_39 : decode cX7_dig 39 = .ok (.ireturn, 1) := by decide +kernel
theorem dX7_dig_40 : decode cX7_dig 40 = .ok (.aload_n 0, 1) := by decide +kernel
theorem dX7_dig_41 : decode cX7_dig 41 = .ok (.iload_n 1, 1) := by decide +kernel
theorem dX7_dig_42 : decode cX7_dig 42 = .ok (.invokevirtual 205, 3) := by decide +kernel
theorem dX7_dig_45 : decode cX7_dig 45 = .ok (.istore_n 2, 1) := by decide +kernel
theorem dX7_dig_46 : decode cX7_dig 46 = .ok (.aload_n 0, 1) := by decide +kernel
theorem dX7_dig_47 : decode cX7_dig 47 = .ok (.getfield 54, 3) := by decide +kernel
theorem dX7_dig_50 : decode cX7_dig 50 = .ok (.iload_n 1, 1) := by decide +kernel
theorem dX7_dig_51 : decode cX7_dig 51 = .ok (.iaload, 1) := by decide +kernel
theorem dX7_dig_52 : decode cX7_dig 52 = .ok (.bipush 12, 2) := by decide +kernel
theorem dX7_dig_54 : decode cX7_dig 54 = .ok (.idiv, 1) := by decide +kernel
theorem dX7_dig_55 : decode cX7_dig 55 = .ok (.istore_n 3, 1) := by decide +kernel
theorem dX7_dig_56 : decode cX7_dig 56 = .ok (.iconst 0, 1) := by decide +kernel
theorem dX7_dig_57 : decode cX7_dig 57 = .ok (.istore 4, 2) := by decide +kernel
theorem dX7_dig_59 : decode cX7_dig 59 = .ok (.iload 4, 2) := by decide +kernel
theorem dX7_dig_61 : decode cX7_dig 61 = .ok (.bipush 12, 2) := by decide +kernel
theorem dX7_dig_63 : decode cX7_dig 63 = .ok (.if_icmp .ge 53, 3) := by decide +kernel
theorem dX7_dig_66 : decode cX7_dig 66 = .ok (.aload_n 0, 1) := by decide +kernel
theorem dX7_dig_67 : decode cX7_dig 67 = .ok (.getfield 54, 3) := by decide +kernel
theorem dX7_dig_70 : decode cX7_dig 70 = .ok (.iload_n 1, 1) := by decide +kernel
theorem dX7_dig_71 : decode cX7_dig 71 = .ok (.iaload, 1) := by decide +kernel
theorem dX7_dig_72 : decode cX7_dig 72 = .ok (.iconst 4, 1) := by decide +kernel
theorem dX7_dig_73 : decode cX7_dig 73 = .ok (.irem, 1) := by decide +kernel
theorem dX7_dig_74 : decode cX7_dig 74 = .ok (.iconst 2, 1) := by decide +kernel
theorem dX7_dig_75 : decode cX7_dig 75 = .ok (.if_icmp .ge 41, 3) := by decide +kernel
theorem dX7_dig_78 : decode cX7_dig 78 = .ok (.iload_n 2, 1) := by decide +kernel
theorem dX7_dig_79 : decode cX7_dig 79 = .ok (.iload 4, 2) := by decide +kernel
theorem dX7_dig_81 : decode cX7_dig 81 = .ok (.iconst 4, 1) := by decide +kernel
theorem dX7_dig_82 : decode cX7_dig 82 = .ok (.irem, 1) := by decide +kernel
theorem dX7_dig_83 : decode cX7_dig 83 = .ok (.iconst 1, 1) := by decide +kernel
theorem dX7_dig_84 : decode cX7_dig 84 = .ok (.if_icmp .le 23, 3) := by decide +kernel
theorem dX7_dig_87 : decode cX7_dig 87 = .ok (.aload_n 0, 1) := by decide +kernel
theorem dX7_dig_88 : decode cX7_dig 88 = .ok (.getfield 7, 3) := by decide +kernel
theorem dX7_dig_91 : decode cX7_dig 91 = .ok (.bipush 12, 2) := by decide +kernel
theorem dX7_dig_93 : decode cX7_dig 93 = .ok (.iload_n 3, 1) := by decide +kernel
theorem dX7_dig_94 : decode cX7_dig 94 = .ok (.imul, 1) := by decide +kernel
theorem dX7_dig_95 : decode cX7_dig 95 = .ok (.iload 4, 2) := by decide +kernel
theorem dX7_dig_97 : decode cX7_dig 97 = .ok (.iadd, 1) := by decide +kernel
theorem dX7_dig_98 : decode cX7_dig 98 = .ok (.iaload, 1) := by decide +kernel
theorem dX7_dig_99 : decode cX7_dig 99 = .ok (.iconst (-1), 1) := by decide +kernel
theorem dX7_dig_100 : decode cX7_dig 100 = .ok (.if_icmp .eq 7, 3) := by decide +kernel
theorem dX7_dig_103 : decode cX7_dig 103 = .ok (.iconst 1, 1) := by decide +kernel
theorem dX7_dig_104 : decode cX7_dig 104 = .ok (.goto 4, 3) := by decide +kernel
theorem dX7_dig_107 : decode cX7_dig 107 = .ok (.iconst 0, 1) := by decide +kernel
theorem dX7_dig_108 : decode cX7_dig 108 = .ok (.iadd, 1) := by decide +kernel
theorem dX7_dig_109 : decode cX7_dig 109 = .ok (.istore_n 2, 1) := by decide +kernel
theorem dX7_dig_110 : decode cX7_dig 110 = .ok (.iinc 4 1, 3) := by decide +kernel
theorem dX7_dig_113 : decode cX7_dig 113 = .ok (.goto (-54), 3) := by decide +kernel
theorem dX7_dig_116 : decode cX7_dig 116 = .ok (.iload_n 2, 1) := by decide +kernel
theorem dX7_dig_117 : decode cX7_dig 117 = .ok (.ireturn, 1) := by decide +kernel
def pX7_dig_b116  (x2 : Int32) (v : St) : Option (Int32 × St) := some (x2, v)
def pX7_dig_b108 (K59 : Int32 → Int32 → Int32 → Int32 → St → Option (Int32 × St)) (x1 : Int32) (x3 : Int32) (x4 : Int32) (y0 : Int32) (y1 : Int32) (v : St) : Option (Int32 × St) := K59 x1 (y1 + y0) x3 (x4 + 1) v
def pX7_dig_b107 (K59 : Int32 → Int32 → Int32 → Int32 → St → Option (Int32 × St)) (x1 : Int32) (x3 : Int32) (x4 : Int32) (y0 : Int32) (v : St) : Option (Int32 × St) := pX7_dig_b108 K59 x1 x3 x4 0 y0 v
def pX7_dig_b59  (n : Nat) : Int32 → Int32 → Int32 → Int32 → St → Option (Int32 × St) := Nat.rec (fun _ _ _ _ _ => none) (fun _ K59 x1 x2 x3 x4 v => if 12 ≤ x4 then (pX7_dig_b116 x2 v) else (if (x1 < 0 ∨ 60 ≤ x1.toNatClampNeg) then none else (if 2 ≤ ((v.1 11 x1.toNatClampNeg) - (v.1 11 x1.toNatClampNeg) / 4 * 4) then (pX7_dig_b116 x2 v) else (if (x4 - x4 / 4 * 4) ≤ 1 then (pX7_dig_b107 K59 x1 x3 x4 x2 v) else (if ((12 * x3) + x4 < 0 ∨ 72 ≤ ((12 * x3) + x4).toNatClampNeg) then none else (if (v.1 0 ((12 * x3) + x4).toNatClampNeg) = ((-1)) then (pX7_dig_b107 K59 x1 x3 x4 x2 v) else (pX7_dig_b108 K59 x1 x3 x4 1 x2 v))))))) n
def pX7_dig_b28  (x1 : Int32) (y0 : Int32) (v : St) : Option (Int32 × St) := if ((sS v 0 y0).2 0) ≤ 0 then (bnd (pX7_liesOn x1 (sS v 0 y0)) (fun r8 w9 => if (x1 < 0 ∨ 60 ≤ x1.toNatClampNeg) then none else (pX7_dig_b59 100 x1 r8 ((w9.1 11 x1.toNatClampNeg) / 12) 0 w9))) else (some (0, sS v 0 y0))
def pX7_dig (a1 : Int32) (u : St) : Option (Int32 × St) := bnd (pX7_isBox a1 u) (fun r1 w2 => if r1 = 0 then (pX7_dig_b28 a1 1 w2) else (if (a1 < 0 ∨ 60 ≤ a1.toNatClampNeg) then none else (if (w2.1 10 a1.toNatClampNeg) = 1 then (pX7_dig_b28 a1 0 w2) else (pX7_dig_b28 a1 2 w2))))
set_option maxHeartbeats 4000000 in
set_option maxRecDepth 20000 in
theorem kX7_dig {l : Launch} {D : va_G} {Y : Nat → ClassId} {q : Nat → Nat} {a1 : Int32} {u u1 : St} {r : Int32} (hX : pX7_dig a1 u = some (r, u1)) : CMi l yX7_dig cX7_dig 5 (some .int) 2 43 D Y (wM Y q u) (wM Y q u1) [.ref (q 0), .int a1] r := by
  refine cm_ofi (by decide) (Nat.le_of_ble_eq_true rfl) rfl (fun p e s m args below meth c A F hr hlk => ?_)
  show GW p l e { frames := 2, cells := 0, slots := 0, locals := 43 } s m args below meth c D A 5 0 0 (MQ below (QI D (wM Y q u1) r A) args s 0 0 A) (wM Y q u) 0 [(0, .ref (q 0)), (1, .int a1)] []
  have b116 : ∀  (x2 : Int32) (v : St), pX7_dig_b116  x2 v = some (r, u1) → GW p l e { frames := 2, cells := 0, slots := 0, locals := 43 } s m args below meth c D A 5 0 0 (MQ below (QI D (wM Y q u1) r A) args s 0 0 A) (wM Y q v) 116 [(2, .int x2)] [] := by
    intro  x2 v hX
    have hX : (some (x2, v)) = some (r, u1) := hX
    refine g_iload_n F dX7_dig_116 0 rfl rfl ?_
    exact g_retC (wf := wM Y q) F hr rfl hlk dX7_dig_117 hX
  have b108 : ∀ (K59 : Int32 → Int32 → Int32 → Int32 → St → Option (Int32 × St)) (hK59 : ∀ (x1 : Int32) (x2 : Int32) (x3 : Int32) (x4 : Int32) (v : St), K59 x1 x2 x3 x4 v = some (r, u1) → GW p l e { frames := 2, cells := 0, slots := 0, locals := 43 } s m args below meth c D A 5 0 0 (MQ below (QI D (wM Y q u1) r A) args s 0 0 A) (wM Y q v) 59 [(0, .ref (q 0)), (1, .int x1), (2, .int x2), (3, .int x3), (4, .int x4)] []) (x1 : Int32) (x3 : Int32) (x4 : Int32) (y0 : Int32) (y1 : Int32) (v : St), pX7_dig_b108 K59 x1 x3 x4 y0 y1 v = some (r, u1) → GW p l e { frames := 2, cells := 0, slots := 0, locals := 43 } s m args below meth c D A 5 0 0 (MQ below (QI D (wM Y q u1) r A) args s 0 0 A) (wM Y q v) 108 [(0, .ref (q 0)), (1, .int x1), (3, .int x3), (4, .int x4)] [.int y0, .int y1] := by
    intro K59 hK59 x1 x3 x4 y0 y1 v hX
    have hX : (K59 x1 (y1 + y0) x3 (x4 + 1) v) = some (r, u1) := hX
    refine g_iadd F dX7_dig_108 ?_
    refine g_istore_n (lv' := [(2, .int (y1 + y0)), (0, .ref (q 0)), (1, .int x1), (3, .int x3), (4, .int x4)]) F dX7_dig_109 rfl (by decide) rfl ?_
    refine g_iinc (v := x4 + 1) (lv' := [(4, .int (x4 + 1)), (2, .int (y1 + y0)), (0, .ref (q 0)), (1, .int x1), (3, .int x3)]) F dX7_dig_110 4 rfl rfl (by decide) rfl ?_
    refine g_goto (tgt := 59) F dX7_dig_113 (by decide) ?_
    refine g_sub [2, 3, 1, 4, 0] rfl ?_
    exact hK59 x1 (y1 + y0) x3 (x4 + 1) v hX
  have b107 : ∀ (K59 : Int32 → Int32 → Int32 → Int32 → St → Option (Int32 × St)) (hK59 : ∀ (x1 : Int32) (x2 : Int32) (x3 : Int32) (x4 : Int32) (v : St), K59 x1 x2 x3 x4 v = some (r, u1) → GW p l e { frames := 2, cells := 0, slots := 0, locals := 43 } s m args below meth c D A 5 0 0 (MQ below (QI D (wM Y q u1) r A) args s 0 0 A) (wM Y q v) 59 [(0, .ref (q 0)), (1, .int x1), (2, .int x2), (3, .int x3), (4, .int x4)] []) (x1 : Int32) (x3 : Int32) (x4 : Int32) (y0 : Int32) (v : St), pX7_dig_b107 K59 x1 x3 x4 y0 v = some (r, u1) → GW p l e { frames := 2, cells := 0, slots := 0, locals := 43 } s m args below meth c D A 5 0 0 (MQ below (QI D (wM Y q u1) r A) args s 0 0 A) (wM Y q v) 107 [(0, .ref (q 0)), (1, .int x1), (3, .int x3), (4, .int x4)] [.int y0] := by
    intro K59 hK59 x1 x3 x4 y0 v hX
    have hX : (pX7_dig_b108 K59 x1 x3 x4 0 y0 v) = some (r, u1) := hX
    refine g_iconst (v := 0) F dX7_dig_107 (by decide) ?_
    exact b108 K59 hK59 x1 x3 x4 0 y0 v hX
  have b59 : ∀  (n : Nat) (x1 : Int32) (x2 : Int32) (x3 : Int32) (x4 : Int32) (v : St), pX7_dig_b59  n x1 x2 x3 x4 v = some (r, u1) → GW p l e { frames := 2, cells := 0, slots := 0, locals := 43 } s m args below meth c D A 5 0 0 (MQ below (QI D (wM Y q u1) r A) args s 0 0 A) (wM Y q v) 59 [(0, .ref (q 0)), (1, .int x1), (2, .int x2), (3, .int x3), (4, .int x4)] [] := by
    intro  n
    induction n with
    | zero => intro x1 x2 x3 x4 v hX; cases hX
    | succ n ih =>
      intro x1 x2 x3 x4 v hX
      obtain ⟨K59, eK⟩ : ∃ K : Int32 → Int32 → Int32 → Int32 → St → Option (Int32 × St), K = pX7_dig_b59  n := ⟨_, rfl⟩
      have hK59 : ∀ (x1 : Int32) (x2 : Int32) (x3 : Int32) (x4 : Int32) (v : St), K59 x1 x2 x3 x4 v = some (r, u1) → GW p l e { frames := 2, cells := 0, slots := 0, locals := 43 } s m args below meth c D A 5 0 0 (MQ below (QI D (wM Y q u1) r A) args s 0 0 A) (wM Y q v) 59 [(0, .ref (q 0)), (1, .int x1), (2, .int x2), (3, .int x3), (4, .int x4)] [] := by rw [eK]; exact ih
      have hX : (if 12 ≤ x4 then (pX7_dig_b116 x2 v) else (if (x1 < 0 ∨ 60 ≤ x1.toNatClampNeg) then none else (if 2 ≤ ((v.1 11 x1.toNatClampNeg) - (v.1 11 x1.toNatClampNeg) / 4 * 4) then (pX7_dig_b116 x2 v) else (if (x4 - x4 / 4 * 4) ≤ 1 then (pX7_dig_b107 K59 x1 x3 x4 x2 v) else (if ((12 * x3) + x4 < 0 ∨ 72 ≤ ((12 * x3) + x4).toNatClampNeg) then none else (if (v.1 0 ((12 * x3) + x4).toNatClampNeg) = ((-1)) then (pX7_dig_b107 K59 x1 x3 x4 x2 v) else (pX7_dig_b108 K59 x1 x3 x4 1 x2 v))))))) = some (r, u1) := by rw [eK]; exact hX
      refine g_iload F dX7_dig_59 4 rfl ?_
      refine g_bipush (v := 12) F dX7_dig_61 (by decide) ?_
      refine g_icmp_ge (tgt := 116) F dX7_dig_63 (by decide) (fun c12 => ?_) (fun c12 => ?_)
      · have hX := if_t hX c12
        refine g_sub [2] rfl ?_
        exact b116 x2 v hX
      · have hX := if_f hX c12
        refine g_aload_n F dX7_dig_66 0 rfl rfl ?_
        refine G_X7_54 F dX7_dig_67 ?_
        refine g_iload_n F dX7_dig_70 1 rfl rfl ?_
        obtain ⟨hI13, hX⟩ := inb hX
        refine AL_11 F hI13 dX7_dig_71 ?_
        refine g_iconst (v := 4) F dX7_dig_72 (by decide) ?_
        refine g_irem F dX7_dig_73 (by decide) ?_
        refine g_iconst (v := 2) F dX7_dig_74 (by decide) ?_
        refine g_icmp_ge (tgt := 116) F dX7_dig_75 (by decide) (fun c14 => ?_) (fun c14 => ?_)
        · have hX := if_t hX c14
          refine g_sub [2] rfl ?_
          exact b116 x2 v hX
        · have hX := if_f hX c14
          refine g_iload_n F dX7_dig_78 2 rfl rfl ?_
          refine g_iload F dX7_dig_79 4 rfl ?_
          refine g_iconst (v := 4) F dX7_dig_81 (by decide) ?_
          refine g_irem F dX7_dig_82 (by decide) ?_
          refine g_iconst (v := 1) F dX7_dig_83 (by decide) ?_
          refine g_icmp_le (tgt := 107) F dX7_dig_84 (by decide) (fun c15 => ?_) (fun c15 => ?_)
          · have hX := if_t hX c15
            refine g_sub [0, 1, 3, 4] rfl ?_
            exact b107 K59 hK59 x1 x3 x4 x2 v hX
          · have hX := if_f hX c15
            refine g_aload_n F dX7_dig_87 0 rfl rfl ?_
            refine G_X7_7 F dX7_dig_88 ?_
            refine g_bipush (v := 12) F dX7_dig_91 (by decide) ?_
            refine g_iload_n F dX7_dig_93 3 rfl rfl ?_
            refine g_imul F dX7_dig_94 ?_
            refine g_iload F dX7_dig_95 4 rfl ?_
            refine g_iadd F dX7_dig_97 ?_
            obtain ⟨hI16, hX⟩ := inb hX
            refine AL_0 F hI16 dX7_dig_98 ?_
            refine g_iconst (v := (-1)) F dX7_dig_99 (by decide) ?_
            refine g_icmp_eq (tgt := 107) F dX7_dig_100 (by decide) (fun c17 => ?_) (fun c17 => ?_)
            · have hX := if_t hX c17
              refine g_sub [0, 1, 3, 4] rfl ?_
              exact b107 K59 hK59 x1 x3 x4 x2 v hX
            · have hX := if_f hX c17
              refine g_iconst (v := 1) F dX7_dig_103 (by decide) ?_
              refine g_goto (tgt := 108) F dX7_dig_104 (by decide) ?_
              refine g_sub [0, 1, 3, 4] rfl ?_
              exact b108 K59 hK59 x1 x3 x4 1 x2 v hX
  have b28 : ∀  (x1 : Int32) (y0 : Int32) (v : St), pX7_dig_b28  x1 y0 v = some (r, u1) → GW p l e { frames := 2, cells := 0, slots := 0, locals := 43 } s m args below meth c D A 5 0 0 (MQ below (QI D (wM Y q u1) r A) args s 0 0 A) (wM Y q v) 28 [(0, .ref (q 0)), (1, .int x1)] [.int y0, .ref (q 0)] := by
    intro  x1 y0 v hX
    have hX : (if ((sS v 0 y0).2 0) ≤ 0 then (bnd (pX7_liesOn x1 (sS v 0 y0)) (fun r8 w9 => if (x1 < 0 ∨ 60 ≤ x1.toNatClampNeg) then none else (pX7_dig_b59 100 x1 r8 ((w9.1 11 x1.toNatClampNeg) / 12) 0 w9))) else (some (0, sS v 0 y0))) = some (r, u1) := hX
    refine P_X7_87 F dX7_dig_28 ?_
    refine g_aload_n F dX7_dig_31 0 rfl rfl ?_
    refine G_X7_87 F dX7_dig_32 ?_
    refine g_if_le (tgt := 40) F dX7_dig_35 (by decide) (fun c7 => ?_) (fun c7 => ?_)
    · have hX := if_t hX c7
      refine g_aload_n F dX7_dig_40 0 rfl rfl ?_
      refine g_iload_n F dX7_dig_41 1 rfl rfl ?_
      obtain ⟨r8, w9, hc10, hX⟩ := bnd_s hX
      refine callX7_liesOn F hc10 ml_X7_205 ⟨Nat.le_of_ble_eq_true rfl, Nat.le_of_ble_eq_true rfl⟩ (Nat.le_of_ble_eq_true rfl) dX7_dig_42 ?_
      refine g_istore_n (lv' := [(2, .int r8), (0, .ref (q 0)), (1, .int x1)]) F dX7_dig_45 rfl (by decide) rfl ?_
      refine g_aload_n F dX7_dig_46 1 rfl rfl ?_
      refine G_X7_54 F dX7_dig_47 ?_
      refine g_iload_n F dX7_dig_50 2 rfl rfl ?_
      obtain ⟨hI11, hX⟩ := inb hX
      refine AL_11 F hI11 dX7_dig_51 ?_
      refine g_bipush (v := 12) F dX7_dig_52 (by decide) ?_
      refine g_idiv F dX7_dig_54 (by decide) ?_
      refine g_istore_n (lv' := [(3, .int ((w9.1 11 x1.toNatClampNeg) / 12)), (2, .int r8), (0, .ref (q 0)), (1, .int x1)]) F dX7_dig_55 rfl (by decide) rfl ?_
      refine g_iconst (v := 0) F dX7_dig_56 (by decide) ?_
      refine g_istore (lv' := [(4, .int 0), (3, .int ((w9.1 11 x1.toNatClampNeg) / 12)), (2, .int r8), (0, .ref (q 0)), (1, .int x1)]) F dX7_dig_57 (by decide) rfl ?_
      refine g_sub [3, 4, 2, 1, 0] rfl ?_
      exact b59 100 x1 r8 ((w9.1 11 x1.toNatClampNeg) / 12) 0 w9 hX
    · have hX := if_f hX c7
      refine g_iconst (v := 0) F dX7_dig_38 (by decide) ?_
      exact g_retC (wf := wM Y q) F hr rfl hlk dX7_dig_39 hX
  have hX : (bnd (pX7_isBox a1 u) (fun r1 w2 => if r1 = 0 then (pX7_dig_b28 a1 1 w2) else (if (a1 < 0 ∨ 60 ≤ a1.toNatClampNeg) then none else (if (w2.1 10 a1.toNatClampNeg) = 1 then (pX7_dig_b28 a1 0 w2) else (pX7_dig_b28 a1 2 w2))))) = some (r, u1) := hX
  refine g_aload_n F dX7_dig_0 0 rfl rfl ?_
  refine g_aload_n F dX7_dig_1 0 rfl rfl ?_
  refine g_iload_n F dX7_dig_2 1 rfl rfl ?_
  obtain ⟨r1, w2, hc3, hX⟩ := bnd_s hX
  refine callX7_isBox F hc3 ml_X7_143 ⟨Nat.le_of_ble_eq_true rfl, Nat.le_of_ble_eq_true rfl⟩ (Nat.le_of_ble_eq_true rfl) dX7_dig_3 ?_
  refine g_if_ne (tgt := 13) F dX7_dig_6 (by decide) (fun c4 => ?_) (fun c4 => ?_)
  · have hX := if_f hX c4
    refine g_aload_n F dX7_dig_13 0 rfl rfl ?_
    refine G_X7_51 F dX7_dig_14 ?_
    refine g_iload_n F dX7_dig_17 1 rfl rfl ?_
    obtain ⟨hI5, hX⟩ := inb hX
    refine AL_10 F hI5 dX7_dig_18 ?_
    refine g_iconst (v := 1) F dX7_dig_19 (by decide) ?_
    refine g_icmp_ne (tgt := 27) F dX7_dig_20 (by decide) (fun c6 => ?_) (fun c6 => ?_)
    · have hX := if_f hX c6
      refine g_iconst (v := 2) F dX7_dig_27 (by decide) ?_
      exact b28 a1 2 w2 hX
    · have hX := if_t hX c6
      refine g_iconst (v := 0) F dX7_dig_23 (by decide) ?_
      refine g_goto (tgt := 28) F dX7_dig_24 (by decide) ?_
      exact b28 a1 0 w2 hX
  · have hX := if_t hX c4
    refine g_iconst (v := 1) F dX7_dig_9 (by decide) ?_
    refine g_goto (tgt := 28) F dX7_dig_10 (by decide) ?_
    exact b28 a1 1 w2 hX
theorem callX7_dig {p : Program} {l : Launch} {e : Env} {R : Room} {s : State} {m : MethodId} {args : Array Value} {below : List Frame} {meth : Method} {c : Code} {D : va_G} {Y : Nat → ClassId} {A : Nat → Prop} {cc : ByteArray} {nL : Nat} {own : String} {Q : State → Prop} {pc : Nat} {lv : List (Nat × Value)} {rest : List Value} {q : Nat → Nat} {a1 : Int32} {u u1 : St} {r : Int32} (F : Fx p s m args c D Y A cc nL own) (hX : pX7_dig a1 u = some (r, u1)) {index : Nat} (hml : Cond.methodLink own index yX7_dig ∈ TBL) (hR : 2 + 1 ≤ R.frames ∧ 8 + (5 + 11) + 43 ≤ R.locals) (hcat : (rest.map fun v => v.category).sum ≤ 8) (hd : decode cc pc = .ok (.invokevirtual index, 3)) (kk : GW p l e R s m args below meth c D A nL 0 0 Q (wM Y q u1) (pc + 3) lv (.int r :: rest)) : GW p l e R s m args below meth c D A nL 0 0 Q (wM Y q u) pc lv (.int a1 :: .ref (q 0) :: rest) := g_callVi (ws := wM Y q u) (n := 1) (q0 := 0) (As := [.int a1]) F [] [] (kX7_dig hX) (List.append_nil _).symm (List.append_nil _) (by unfold mOK; decide +kernel) rfl rfl cd_yX7_dig hml im_yX7_dig se_yX7_dig in_X7 rfl rfl hR ⟨Nat.zero_le _, Nat.zero_le _⟩ rfl hcat hd kk
theorem dX7_orders_0 : decode cX7_orders 0 = .ok (.aload_n 0, 1) := by decide +kernel
theorem dX7_orders_1 : decode cX7_orders 1 = .ok (.iconst 0, 1) := by decide +kernel
theorem dX7_orders_2 : decode cX7_orders 2 = .ok (.putfield 87, 3) := by decide +kernel
theorem dX7_orders_5 : decode cX7_orders 5 = .ok (.aload_n 0, 1) := by decide +kernel
theorem dX7_orders_6 : decode cX7_orders 6 = .ok (.getfield 97, 3) := by decide +kernel
theorem dX7_orders_9 : decode cX7_orders 9 = .ok (.ireturn, 1) := by decide +kernel
def pX7_orders  (u : St) : Option (Int32 × St) := some ((sS u 0 0).2 6, sS u 0 0)
set_option maxHeartbeats 4000000 in
set_option maxRecDepth 20000 in
theorem kX7_orders {l : Launch} {D : va_G} {Y : Nat → ClassId} {q : Nat → Nat} {u u1 : St} {r : Int32} (hX : pX7_orders u = some (r, u1)) : CMi l yX7_orders cX7_orders 1 (some .int) 0 0 D Y (wM Y q u) (wM Y q u1) [.ref (q 0)] r := by
  refine cm_ofi (by decide) (Nat.le_of_ble_eq_true rfl) rfl (fun p e s m args below meth c A F hr hlk => ?_)
  show GW p l e { frames := 0, cells := 0, slots := 0, locals := 0 } s m args below meth c D A 1 0 0 (MQ below (QI D (wM Y q u1) r A) args s 0 0 A) (wM Y q u) 0 [(0, .ref (q 0))] []
  have hX : (some ((sS u 0 0).2 6, sS u 0 0)) = some (r, u1) := hX
  refine g_aload_n F dX7_orders_0 0 rfl rfl ?_
  refine g_iconst (v := 0) F dX7_orders_1 (by decide) ?_
  refine P_X7_87 F dX7_orders_2 ?_
  refine g_aload_n F dX7_orders_5 0 rfl rfl ?_
  refine G_X7_97 F dX7_orders_6 ?_
  exact g_retC (wf := wM Y q) F hr rfl hlk dX7_orders_9 hX
theorem callX7_orders {p : Program} {l : Launch} {e : Env} {R : Room} {s : State} {m : MethodId} {args : Array Value} {below : List Frame} {meth : Method} {c : Code} {D : va_G} {Y : Nat → ClassId} {A : Nat → Prop} {cc : ByteArray} {nL : Nat} {own : String} {Q : State → Prop} {pc : Nat} {lv : List (Nat × Value)} {rest : List Value} {q : Nat → Nat} {u u1 : St} {r : Int32} (F : Fx p s m args c D Y A cc nL own) (hX : pX7_orders u = some (r, u1)) {index : Nat} (hml : Cond.methodLink own index yX7_orders ∈ TBL) (hR : 0 + 1 ≤ R.frames ∧ 8 + (1 + 11) + 0 ≤ R.locals) (hcat : (rest.map fun v => v.category).sum ≤ 8) (hd : decode cc pc = .ok (.invokevirtual index, 3)) (kk : GW p l e R s m args below meth c D A nL 0 0 Q (wM Y q u1) (pc + 3) lv (.int r :: rest)) : GW p l e R s m args below meth c D A nL 0 0 Q (wM Y q u) pc lv (.ref (q 0) :: rest) := g_callVi (ws := wM Y q u) (n := 0) (q0 := 0) (As := []) F [] [] (kX7_orders hX) (List.append_nil _).symm (List.append_nil _) (by unfold mOK; decide +kernel) rfl rfl cd_yX7_orders hml im_yX7_orders se_yX7_orders in_X7 rfl rfl hR ⟨Nat.zero_le _, Nat.zero_le _⟩ rfl hcat hd kk
theorem dX7_can_0 : decode cX7_can 0 = .ok (.aload_n 0, 1) := by decide +kernel
theorem dX7_can_1 : decode cX7_can 1 = .ok (.aload_n 0, 1) := by decide +kernel
theorem dX7_can_2 : decode cX7_can 2 = .ok (.iload_n 1, 1) := by decide +kernel
theorem dX7_can_3 : decode cX7_can 3 = .ok (.invokevirtual 155, 3) := by decide +kernel
theorem dX7_can_6 : decode cX7_can 6 = .ok (.ifCond .eq 14, 3) := by decide +kernel
theorem dX7_can_9 : decode cX7_can 9 = .ok (.iload_n 2, 1) := by decide +kernel
theorem dX7_can_10 : decode cX7_can 10 = .ok (.invokestatic 117, 3) := by decide +kernel
theorem dX7_can_13 : decode cX7_can 13 = .ok (.ifCond .eq 7, 3) := by decide +kernel
theorem dX7_can_16 : decode cX7_can 16 = .ok (.iconst 0, 1) := by decide +kernel
theorem dX7_can_17 : decode cX7_can 17 = .ok (.goto 4, 3) := by decide +kernel
theorem dX7_can_20 : decode cX7_can 20 = .ok (.iconst 1, 1) := by decide +kernel
theorem dX7_can_21 : decode cX7_can 21 = .ok (.putfield 87, 3) := by decide +kernel
theorem dX7_can_24 : decode cX7_can 24 = .ok (.aload_n 0, 1) := by decide +kernel
theorem dX7_can_25 : decode cX7_can 25 = .ok (.getfield 87, 3) := by decide +kernel
theorem dX7_can_28 : decode cX7_can 28 = .ok (.ifCond .ne 16, 3) := by decide +kernel
theorem dX7_can_31 : decode cX7_can 31 = .ok (.aload_n 0, 1) := by decide +kernel
theorem dX7_can_32 : decode cX7_can 32 = .ok (.iload_n 1, 1) := by decide +kernel
theorem dX7_can_33 : decode cX7_can 33 = .ok (.iload_n 2, 1) := by decide +kernel
theorem dX7_can_34 : decode cX7_can 34 = .ok (.invokevirtual 189, 3) := by decide +kernel
theorem dX7_can_37 : decode cX7_can 37 = .ok (.ifCond .eq 7, 3) := by decide +kernel
theorem dX7_can_40 : decode cX7_can 40 = .ok (.iconst 1, 1) := by decide +kernel
theorem dX7_can_41 : decode cX7_can 41 = .ok (.goto 4, 3) := by decide +kernel
theorem dX7_can_44 : decode cX7_can 44 = .ok (.iconst 0, 1) := by decide +kernel
theorem dX7_can_45 : decode cX7_can 45 = .ok (.ireturn, 1) := by decide +kernel
def pX7_can_b44   (v : St) : Option (Int32 × St) := some (0, v)
def pX7_can_b21  (x1 : Int32) (x2 : Int32) (y0 : Int32) (v : St) : Option (Int32 × St) := if ((sS v 0 y0).2 0) = 0 then (bnd (pX7_isDoable x1 x2 (sS v 0 y0)) (fun r6 w7 => if r6 = 0 then (pX7_can_b44 w7) else (some (1, w7)))) else (pX7_can_b44 (sS v 0 y0))
def pX7_can_b20  (x1 : Int32) (x2 : Int32) (v : St) : Option (Int32 × St) := pX7_can_b21 x1 x2 1 v
def pX7_can (a1 : Int32) (a2 : Int32) (u : St) : Option (Int32 × St) := bnd (pX7_isOrder a1 u) (fun r1 w2 => if r1 = 0 then (pX7_can_b20 a1 a2 w2) else (if (pX7_isCrane a2) = 0 then (pX7_can_b20 a1 a2 w2) else (pX7_can_b21 a1 a2 0 w2)))
set_option maxHeartbeats 4000000 in
set_option maxRecDepth 20000 in
theorem kX7_can {l : Launch} {D : va_G} {Y : Nat → ClassId} {q : Nat → Nat} {a1 a2 : Int32} {u u1 : St} {r : Int32} (hX : pX7_can a1 a2 u = some (r, u1)) : CMi l yX7_can cX7_can 3 (some .boolean) 5 118 D Y (wM Y q u) (wM Y q u1) [.ref (q 0), .int a1, .int a2] r := by
  refine cm_ofi (by decide) (Nat.le_of_ble_eq_true rfl) rfl (fun p e s m args below meth c A F hr hlk => ?_)
  show GW p l e { frames := 5, cells := 0, slots := 0, locals := 118 } s m args below meth c D A 3 0 0 (MQ below (QI D (wM Y q u1) r A) args s 0 0 A) (wM Y q u) 0 [(0, .ref (q 0)), (1, .int a1), (2, .int a2)] []
  have b44 : ∀   (v : St), pX7_can_b44  v = some (r, u1) → GW p l e { frames := 5, cells := 0, slots := 0, locals := 118 } s m args below meth c D A 3 0 0 (MQ below (QI D (wM Y q u1) r A) args s 0 0 A) (wM Y q v) 44 [] [] := by
    intro  v hX
    have hX : (some (0, v)) = some (r, u1) := hX
    refine g_iconst (v := 0) F dX7_can_44 (by decide) ?_
    exact g_retC (wf := wM Y q) F hr rfl hlk dX7_can_45 hX
  have b21 : ∀  (x1 : Int32) (x2 : Int32) (y0 : Int32) (v : St), pX7_can_b21  x1 x2 y0 v = some (r, u1) → GW p l e { frames := 5, cells := 0, slots := 0, locals := 118 } s m args below meth c D A 3 0 0 (MQ below (QI D (wM Y q u1) r A) args s 0 0 A) (wM Y q v) 21 [(0, .ref (q 0)), (1, .int x1), (2, .int x2)] [.int y0, .ref (q 0)] := by
    intro  x1 x2 y0 v hX
    have hX : (if ((sS v 0 y0).2 0) = 0 then (bnd (pX7_isDoable x1 x2 (sS v 0 y0)) (fun r6 w7 => if r6 = 0 then (pX7_can_b44 w7) else (some (1, w7)))) else (pX7_can_b44 (sS v 0 y0))) = some (r, u1) := hX
    refine P_X7_87 F dX7_can_21 ?_
    refine g_aload_n F dX7_can_24 0 rfl rfl ?_
    refine G_X7_87 F dX7_can_25 ?_
    refine g_if_ne (tgt := 44) F dX7_can_28 (by decide) (fun c5 => ?_) (fun c5 => ?_)
    · have hX := if_f hX c5
      refine g_sub [] rfl ?_
      exact b44 (sS v 0 y0) hX
    · have hX := if_t hX c5
      refine g_aload_n F dX7_can_31 0 rfl rfl ?_
      refine g_iload_n F dX7_can_32 1 rfl rfl ?_
      refine g_iload_n F dX7_can_33 2 rfl rfl ?_
      obtain ⟨r6, w7, hc8, hX⟩ := bnd_s hX
      refine callX7_isDoable F hc8 ml_X7_189 ⟨Nat.le_of_ble_eq_true rfl, Nat.le_of_ble_eq_true rfl⟩ (Nat.le_of_ble_eq_true rfl) dX7_can_34 ?_
      refine g_if_eq (tgt := 44) F dX7_can_37 (by decide) (fun c9 => ?_) (fun c9 => ?_)
      · have hX := if_t hX c9
        refine g_sub [] rfl ?_
        exact b44 w7 hX
      · have hX := if_f hX c9
        refine g_iconst (v := 1) F dX7_can_40 (by decide) ?_
        refine g_goto (tgt := 45) F dX7_can_41 (by decide) ?_
        exact g_retC (wf := wM Y q) F hr rfl hlk dX7_can_45 hX
  have b20 : ∀  (x1 : Int32) (x2 : Int32) (v : St), pX7_can_b20  x1 x2 v = some (r, u1) → GW p l e { frames := 5, cells := 0, slots := 0, locals := 118 } s m args below meth c D A 3 0 0 (MQ below (QI D (wM Y q u1) r A) args s 0 0 A) (wM Y q v) 20 [(0, .ref (q 0)), (1, .int x1), (2, .int x2)] [.ref (q 0)] := by
    intro  x1 x2 v hX
    have hX : (pX7_can_b21 x1 x2 1 v) = some (r, u1) := hX
    refine g_iconst (v := 1) F dX7_can_20 (by decide) ?_
    exact b21 x1 x2 1 v hX
  have hX : (bnd (pX7_isOrder a1 u) (fun r1 w2 => if r1 = 0 then (pX7_can_b20 a1 a2 w2) else (if (pX7_isCrane a2) = 0 then (pX7_can_b20 a1 a2 w2) else (pX7_can_b21 a1 a2 0 w2)))) = some (r, u1) := hX
  refine g_aload_n F dX7_can_0 0 rfl rfl ?_
  refine g_aload_n F dX7_can_1 0 rfl rfl ?_
  refine g_iload_n F dX7_can_2 1 rfl rfl ?_
  obtain ⟨r1, w2, hc3, hX⟩ := bnd_s hX
  refine callX7_isOrder F hc3 ml_X7_155 ⟨Nat.le_of_ble_eq_true rfl, Nat.le_of_ble_eq_true rfl⟩ (Nat.le_of_ble_eq_true rfl) dX7_can_3 ?_
  refine g_if_eq (tgt := 20) F dX7_can_6 (by decide) (fun c4 => ?_) (fun c4 => ?_)
  · have hX := if_t hX c4
    exact b20 a1 a2 w2 hX
  · have hX := if_f hX c4
    refine g_iload_n F dX7_can_9 2 rfl rfl ?_
    refine callX7_isCrane F ml_X7_117 ⟨Nat.le_of_ble_eq_true rfl, Nat.le_of_ble_eq_true rfl⟩ (Nat.le_of_ble_eq_true rfl) dX7_can_10 ?_
    refine g_if_eq (tgt := 20) F dX7_can_13 (by decide) (fun c10 => ?_) (fun c10 => ?_)
    · have hX := if_t hX c10
      exact b20 a1 a2 w2 hX
    · have hX := if_f hX c10
      refine g_iconst (v := 0) F dX7_can_16 (by decide) ?_
      refine g_goto (tgt := 21) F dX7_can_17 (by decide) ?_
      exact b21 a1 a2 0 w2 hX
theorem callX7_can {p : Program} {l : Launch} {e : Env} {R : Room} {s : State} {m : MethodId} {args : Array Value} {below : List Frame} {meth : Method} {c : Code} {D : va_G} {Y : Nat → ClassId} {A : Nat → Prop} {cc : ByteArray} {nL : Nat} {own : String} {Q : State → Prop} {pc : Nat} {lv : List (Nat × Value)} {rest : List Value} {q : Nat → Nat} {a1 a2 : Int32} {u u1 : St} {r : Int32} (F : Fx p s m args c D Y A cc nL own) (hX : pX7_can a1 a2 u = some (r, u1)) {index : Nat} (hml : Cond.methodLink own index yX7_can ∈ TBL) (hR : 5 + 1 ≤ R.frames ∧ 8 + (3 + 11) + 118 ≤ R.locals) (hcat : (rest.map fun v => v.category).sum ≤ 8) (hd : decode cc pc = .ok (.invokevirtual index, 3)) (kk : GW p l e R s m args below meth c D A nL 0 0 Q (wM Y q u1) (pc + 3) lv (.int r :: rest)) : GW p l e R s m args below meth c D A nL 0 0 Q (wM Y q u) pc lv (.int a2 :: .int a1 :: .ref (q 0) :: rest) := g_callVi (ws := wM Y q u) (n := 2) (q0 := 0) (As := [.int a1, .int a2]) F [] [] (kX7_can hX) (List.append_nil _).symm (List.append_nil _) (by unfold mOK; decide +kernel) rfl rfl cd_yX7_can hml im_yX7_can se_yX7_can in_X7 rfl rfl hR ⟨Nat.zero_le _, Nat.zero_le _⟩ rfl hcat hd kk
theorem dX7_may_0 : decode cX7_may 0 = .ok (.aload_n 0, 1) := by decide +kernel
theorem dX7_may_1 : decode cX7_may 1 = .ok (.aload_n 0, 1) := by decide +kernel
theorem dX7_may_2 : decode cX7_may 2 = .ok (.iload_n 1, 1) := by decide +kernel
theorem dX7_may_3 : decode cX7_may 3 = .ok (.invokevirtual 143, 3) := by decide +kernel
theorem dX7_may_6 : decode cX7_may 6 = .ok (.ifCond .eq 14, 3) := by decide +kernel
theorem dX7_may_9 : decode cX7_may 9 = .ok (.iload_n 2, 1) := by decide +kernel
theorem dX7_may_10 : decode cX7_may 10 = .ok (.invokestatic 103, 3) := by decide +kernel
theorem dX7_may_13 : decode cX7_may 13 = .ok (.ifCond .eq 7, 3) := by decide +kernel
theorem dX7_may_16 : decode cX7_may 16 = .ok (.iconst 0, 1) := by decide +kernel
theorem dX7_may_17 : decode cX7_may 17 = .ok (.goto 4, 3) := by decide +kernel
theorem dX7_may_20 : decode cX7_may 20 = .ok (.iconst 1, 1) := by decide +kernel
theorem dX7_may_21 : decode cX7_may 21 = .ok (.putfield 87, 3) := by decide +kernel
theorem dX7_may_24 : decode cX7_may 24 = .ok (.aload_n 0, 1) := by decide +kernel
theorem dX7_may_25 : decode cX7_may 25 = .ok (.getfield 87, 3) := by decide +kernel
theorem dX7_may_28 : decode cX7_may 28 = .ok (.ifCond .ne 19, 3) := by decide +kernel
theorem dX7_may_31 : decode cX7_may 31 = .ok (.aload_n 0, 1) := by decide +kernel
theorem dX7_may_32 : decode cX7_may 32 = .ok (.iload_n 1, 1) := by decide +kernel
theorem dX7_may_33 : decode cX7_may 33 = .ok (.iload_n 2, 1) := by decide +kernel
theorem dX7_may_34 : decode cX7_may 34 = .ok (.invokestatic 107, 3) := by decide +kernel
theorem dX7_may_37 : decode cX7_may 37 = .ok (.invokevirtual 165, 3) := by decide +kernel
theorem dX7_may_40 : decode cX7_may 40 = .ok (.ifCond .eq 7, 3) := by decide +kernel
theorem dX7_may_43 : decode cX7_may 43 = .ok (.iconst 1, 1) := by decide +kernel
theorem dX7_may_44 : decode cX7_may 44 = .ok (.goto 4, 3) := by decide +kernel
theorem dX7_may_47 : decode cX7_may 47 = .ok (.iconst 0, 1) := by decide +kernel
theorem dX7_may_48 : decode cX7_may 48 = .ok (.ireturn, 1) := by decide +kernel
def pX7_may_b47   (v : St) : Option (Int32 × St) := some (0, v)
def pX7_may_b21  (x1 : Int32) (x2 : Int32) (y0 : Int32) (v : St) : Option (Int32 × St) := if ((sS v 0 y0).2 0) = 0 then (bnd (pX7_slotMay x1 (pX7_indexOf x2) (sS v 0 y0)) (fun r6 w7 => if r6 = 0 then (pX7_may_b47 w7) else (some (1, w7)))) else (pX7_may_b47 (sS v 0 y0))
def pX7_may_b20  (x1 : Int32) (x2 : Int32) (v : St) : Option (Int32 × St) := pX7_may_b21 x1 x2 1 v
def pX7_may (a1 : Int32) (a2 : Int32) (u : St) : Option (Int32 × St) := bnd (pX7_isBox a1 u) (fun r1 w2 => if r1 = 0 then (pX7_may_b20 a1 a2 w2) else (if (pX7_isSlot a2) = 0 then (pX7_may_b20 a1 a2 w2) else (pX7_may_b21 a1 a2 0 w2)))
set_option maxHeartbeats 4000000 in
set_option maxRecDepth 20000 in
theorem kX7_may {l : Launch} {D : va_G} {Y : Nat → ClassId} {q : Nat → Nat} {a1 a2 : Int32} {u u1 : St} {r : Int32} (hX : pX7_may a1 a2 u = some (r, u1)) : CMi l yX7_may cX7_may 3 (some .boolean) 3 74 D Y (wM Y q u) (wM Y q u1) [.ref (q 0), .int a1, .int a2] r := by
  refine cm_ofi (by decide) (Nat.le_of_ble_eq_true rfl) rfl (fun p e s m args below meth c A F hr hlk => ?_)
  show GW p l e { frames := 3, cells := 0, slots := 0, locals := 74 } s m args below meth c D A 3 0 0 (MQ below (QI D (wM Y q u1) r A) args s 0 0 A) (wM Y q u) 0 [(0, .ref (q 0)), (1, .int a1), (2, .int a2)] []
  have b47 : ∀   (v : St), pX7_may_b47  v = some (r, u1) → GW p l e { frames := 3, cells := 0, slots := 0, locals := 74 } s m args below meth c D A 3 0 0 (MQ below (QI D (wM Y q u1) r A) args s 0 0 A) (wM Y q v) 47 [] [] := by
    intro  v hX
    have hX : (some (0, v)) = some (r, u1) := hX
    refine g_iconst (v := 0) F dX7_may_47 (by decide) ?_
    exact g_retC (wf := wM Y q) F hr rfl hlk dX7_may_48 hX
  have b21 : ∀  (x1 : Int32) (x2 : Int32) (y0 : Int32) (v : St), pX7_may_b21  x1 x2 y0 v = some (r, u1) → GW p l e { frames := 3, cells := 0, slots := 0, locals := 74 } s m args below meth c D A 3 0 0 (MQ below (QI D (wM Y q u1) r A) args s 0 0 A) (wM Y q v) 21 [(0, .ref (q 0)), (1, .int x1), (2, .int x2)] [.int y0, .ref (q 0)] := by
    intro  x1 x2 y0 v hX
    have hX : (if ((sS v 0 y0).2 0) = 0 then (bnd (pX7_slotMay x1 (pX7_indexOf x2) (sS v 0 y0)) (fun r6 w7 => if r6 = 0 then (pX7_may_b47 w7) else (some (1, w7)))) else (pX7_may_b47 (sS v 0 y0))) = some (r, u1) := hX
    refine P_X7_87 F dX7_may_21 ?_
    refine g_aload_n F dX7_may_24 0 rfl rfl ?_
    refine G_X7_87 F dX7_may_25 ?_
    refine g_if_ne (tgt := 47) F dX7_may_28 (by decide) (fun c5 => ?_) (fun c5 => ?_)
    · have hX := if_f hX c5
      refine g_sub [] rfl ?_
      exact b47 (sS v 0 y0) hX
    · have hX := if_t hX c5
      refine g_aload_n F dX7_may_31 0 rfl rfl ?_
      refine g_iload_n F dX7_may_32 1 rfl rfl ?_
      refine g_iload_n F dX7_may_33 2 rfl rfl ?_
      refine callX7_indexOf F ml_X7_107 ⟨Nat.le_of_ble_eq_true rfl, Nat.le_of_ble_eq_true rfl⟩ (Nat.le_of_ble_eq_true rfl) dX7_may_34 ?_
      obtain ⟨r6, w7, hc8, hX⟩ := bnd_s hX
      refine callX7_slotMay F hc8 ml_X7_165 ⟨Nat.le_of_ble_eq_true rfl, Nat.le_of_ble_eq_true rfl⟩ (Nat.le_of_ble_eq_true rfl) dX7_may_37 ?_
      refine g_if_eq (tgt := 47) F dX7_may_40 (by decide) (fun c9 => ?_) (fun c9 => ?_)
      · have hX := if_t hX c9
        refine g_sub [] rfl ?_
        exact b47 w7 hX
      · have hX := if_f hX c9
        refine g_iconst (v := 1) F dX7_may_43 (by decide) ?_
        refine g_goto (tgt := 48) F dX7_may_44 (by decide) ?_
        exact g_retC (wf := wM Y q) F hr rfl hlk dX7_may_48 hX
  have b20 : ∀  (x1 : Int32) (x2 : Int32) (v : St), pX7_may_b20  x1 x2 v = some (r, u1) → GW p l e { frames := 3, cells := 0, slots := 0, locals := 74 } s m args below meth c D A 3 0 0 (MQ below (QI D (wM Y q u1) r A) args s 0 0 A) (wM Y q v) 20 [(0, .ref (q 0)), (1, .int x1), (2, .int x2)] [.ref (q 0)] := by
    intro  x1 x2 v hX
    have hX : (pX7_may_b21 x1 x2 1 v) = some (r, u1) := hX
    refine g_iconst (v := 1) F dX7_may_20 (by decide) ?_
    exact b21 x1 x2 1 v hX
  have hX : (bnd (pX7_isBox a1 u) (fun r1 w2 => if r1 = 0 then (pX7_may_b20 a1 a2 w2) else (if (pX7_isSlot a2) = 0 then (pX7_may_b20 a1 a2 w2) else (pX7_may_b21 a1 a2 0 w2)))) = some (r, u1) := hX
  refine g_aload_n F dX7_may_0 0 rfl rfl ?_
  refine g_aload_n F dX7_may_1 0 rfl rfl ?_
  refine g_iload_n F dX7_may_2 1 rfl rfl ?_
  obtain ⟨r1, w2, hc3, hX⟩ := bnd_s hX
  refine callX7_isBox F hc3 ml_X7_143 ⟨Nat.le_of_ble_eq_true rfl, Nat.le_of_ble_eq_true rfl⟩ (Nat.le_of_ble_eq_true rfl) dX7_may_3 ?_
  refine g_if_eq (tgt := 20) F dX7_may_6 (by decide) (fun c4 => ?_) (fun c4 => ?_)
  · have hX := if_t hX c4
    exact b20 a1 a2 w2 hX
  · have hX := if_f hX c4
    refine g_iload_n F dX7_may_9 2 rfl rfl ?_
    refine callX7_isSlot F ml_X7_103 ⟨Nat.le_of_ble_eq_true rfl, Nat.le_of_ble_eq_true rfl⟩ (Nat.le_of_ble_eq_true rfl) dX7_may_10 ?_
    refine g_if_eq (tgt := 20) F dX7_may_13 (by decide) (fun c10 => ?_) (fun c10 => ?_)
    · have hX := if_t hX c10
      exact b20 a1 a2 w2 hX
    · have hX := if_f hX c10
      refine g_iconst (v := 0) F dX7_may_16 (by decide) ?_
      refine g_goto (tgt := 21) F dX7_may_17 (by decide) ?_
      exact b21 a1 a2 0 w2 hX
theorem callX7_may {p : Program} {l : Launch} {e : Env} {R : Room} {s : State} {m : MethodId} {args : Array Value} {below : List Frame} {meth : Method} {c : Code} {D : va_G} {Y : Nat → ClassId} {A : Nat → Prop} {cc : ByteArray} {nL : Nat} {own : String} {Q : State → Prop} {pc : Nat} {lv : List (Nat × Value)} {rest : List Value} {q : Nat → Nat} {a1 a2 : Int32} {u u1 : St} {r : Int32} (F : Fx p s m args c D Y A cc nL own) (hX : pX7_may a1 a2 u = some (r, u1)) {index : Nat} (hml : Cond.methodLink own index yX7_may ∈ TBL) (hR : 3 + 1 ≤ R.frames ∧ 8 + (3 + 11) + 74 ≤ R.locals) (hcat : (rest.map fun v => v.category).sum ≤ 8) (hd : decode cc pc = .ok (.invokevirtual index, 3)) (kk : GW p l e R s m args below meth c D A nL 0 0 Q (wM Y q u1) (pc + 3) lv (.int r :: rest)) : GW p l e R s m args below meth c D A nL 0 0 Q (wM Y q u) pc lv (.int a2 :: .int a1 :: .ref (q 0) :: rest) := g_callVi (ws := wM Y q u) (n := 2) (q0 := 0) (As := [.int a1, .int a2]) F [] [] (kX7_may hX) (List.append_nil _).symm (List.append_nil _) (by unfold mOK; decide +kernel) rfl rfl cd_yX7_may hml im_yX7_may se_yX7_may in_X7 rfl rfl hR ⟨Nat.zero_le _, Nat.zero_le _⟩ rfl hcat hd kk
