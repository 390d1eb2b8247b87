/-! A ROW: its methods as functions on (length, cells) -/
theorem dX3_get_0 : decode cX3_get 0 = .ok (.iload_n 1, 1) := by decide +kernel
theorem dX3_get_1 : decode cX3_get 1 = .ok (.ifCond .lt 21, 3) := by decide +kernel
theorem dX3_get_4 : decode cX3_get 4 = .ok (.iload_n 1, 1) := by decide +kernel
theorem dX3_get_5 : decode cX3_get 5 = .ok (.aload_n 0, 1) := by decide +kernel
theorem dX3_get_6 : decode cX3_get 6 = .ok (.getfield 9, 3) := by decide +kernel
theorem dX3_get_9 : decode cX3_get 9 = .ok (.arraylength, 1) := by decide +kernel
theorem dX3_get_10 : decode cX3_get 10 = .ok (.if_icmp .ge 12, 3) := by decide +kernel
theorem dX3_get_13 : decode cX3_get 13 = .ok (.aload_n 0, 1) := by decide +kernel
theorem dX3_get_14 : decode cX3_get 14 = .ok (.getfield 9, 3) := by decide +kernel
theorem dX3_get_17 : decode cX3_get 17 = .ok (.iload_n 1, 1) := by decide +kernel
theorem dX3_get_18 : decode cX3_get 18 = .ok (.iaload, 1) := by decide +kernel
theorem dX3_get_19 : decode cX3_get 19 = .ok (.goto 4, 3) := by decide +kernel
theorem dX3_get_22 : decode cX3_get 22 = .ok (.iconst (-1), 1) := by decide +kernel
theorem dX3_get_23 : decode cX3_get 23 = .ok (.ireturn, 1) := by decide +kernel
theorem dX3_set_0 : decode cX3_set 0 = .ok (.iload_n 1, 1) := by decide +kernel
theorem dX3_set_1 : decode cX3_set 1 = .ok (.ifCond .lt 19, 3) := by decide +kernel
theorem dX3_set_4 : decode cX3_set 4 = .ok (.iload_n 1, 1) := by decide +kernel
theorem dX3_set_5 : decode cX3_set 5 = .ok (.aload_n 0, 1) := by decide +kernel
theorem dX3_set_6 : decode cX3_set 6 = .ok (.getfield 9, 3) := by decide +kernel
theorem dX3_set_9 : decode cX3_set 9 = .ok (.arraylength, 1) := by decide +kernel
theorem dX3_set_10 : decode cX3_set 10 = .ok (.if_icmp .ge 10, 3) := by decide +kernel
theorem dX3_set_13 : decode cX3_set 13 = .ok (.aload_n 0, 1) := by decide +kernel
theorem dX3_set_14 : decode cX3_set 14 = .ok (.getfield 9, 3) := by decide +kernel
theorem dX3_set_17 : decode cX3_set 17 = .ok (.iload_n 1, 1) := by decide +kernel
theorem dX3_set_18 : decode cX3_set 18 = .ok (.iload_n 2, 1) := by decide +kernel
theorem dX3_set_19 : decode cX3_set 19 = .ok (.iastore, 1) := by decide +kernel
theorem dX3_set_20 : decode cX3_set 20 = .ok (.return_, 1) := by decide +kernel
theorem dX3_add_0 : decode cX3_add 0 = .ok (.iload_n 1, 1) := by decide +kernel
theorem dX3_add_1 : decode cX3_add 1 = .ok (.ifCond .lt 22, 3) := by decide +kernel
theorem dX3_add_4 : decode cX3_add 4 = .ok (.iload_n 1, 1) := by decide +kernel
theorem dX3_add_5 : decode cX3_add 5 = .ok (.aload_n 0, 1) := by decide +kernel
theorem dX3_add_6 : decode cX3_add 6 = .ok (.getfield 9, 3) := by decide +kernel
theorem dX3_add_9 : decode cX3_add 9 = .ok (.arraylength, 1) := by decide +kernel
theorem dX3_add_10 : decode cX3_add 10 = .ok (.if_icmp .ge 13, 3) := by decide +kernel
theorem dX3_add_13 : decode cX3_add 13 = .ok (.aload_n 0, 1) := by decide +kernel
theorem dX3_add_14 : decode cX3_add 14 = .ok (.getfield 9, 3) := by decide +kernel
theorem dX3_add_17 : decode cX3_add 17 = .ok (.iload_n 1, 1) := by decide +kernel
theorem dX3_add_18 : decode cX3_add 18 = .ok (.dup2, 1) := by decide +kernel
theorem dX3_add_19 : decode cX3_add 19 = .ok (.iaload, 1) := by decide +kernel
theorem dX3_add_20 : decode cX3_add 20 = .ok (.iload_n 2, 1) := by decide +kernel
theorem dX3_add_21 : decode cX3_add 21 = .ok (.iadd, 1) := by decide +kernel
theorem dX3_add_22 : decode cX3_add 22 = .ok (.iastore, 1) := by decide +kernel
theorem dX3_add_23 : decode cX3_add 23 = .ok (.return_, 1) := by decide +kernel
theorem dX3_fill_0 : decode cX3_fill 0 = .ok (.iconst 0, 1) := by decide +kernel
theorem dX3_fill_1 : decode cX3_fill 1 = .ok (.istore_n 2, 1) := by decide +kernel
theorem dX3_fill_2 : decode cX3_fill 2 = .ok (.iload_n 2, 1) := by decide +kernel
theorem dX3_fill_3 : decode cX3_fill 3 = .ok (.aload_n 0, 1) := by decide +kernel
theorem dX3_fill_4 : decode cX3_fill 4 = .ok (.getfield 9, 3) := by decide +kernel
theorem dX3_fill_7 : decode cX3_fill 7 = .ok (.arraylength, 1) := by decide +kernel
theorem dX3_fill_8 : decode cX3_fill 8 = .ok (.if_icmp .ge 16, 3) := by decide +kernel
theorem dX3_fill_11 : decode cX3_fill 11 = .ok (.aload_n 0, 1) := by decide +kernel
theorem dX3_fill_12 : decode cX3_fill 12 = .ok (.getfield 9, 3) := by decide +kernel
theorem dX3_fill_15 : decode cX3_fill 15 = .ok (.iload_n 2, 1) := by decide +kernel
theorem dX3_fill_16 : decode cX3_fill 16 = .ok (.iload_n 1, 1) := by decide +kernel
theorem dX3_fill_17 : decode cX3_fill 17 = .ok (.iastore, 1) := by decide +kernel
theorem dX3_fill_18 : decode cX3_fill 18 = .ok (.iinc 2 1, 3) := by decide +kernel
theorem dX3_fill_21 : decode cX3_fill 21 = .ok (.goto (-19), 3) := by decide +kernel
theorem dX3_fill_24 : decode cX3_fill 24 = .ok (.return_, 1) := by decide +kernel
def rget (n : Nat) (f : Nat → Int32) (i : Int32) : Int32 := if i < 0 then -1 else if nI n ≤ i then -1 else f i.toNatClampNeg
def rset (n : Nat) (f : Nat → Int32) (i x : Int32) : Nat → Int32 := if i < 0 then f else if nI n ≤ i then f else upd f i.toNatClampNeg x
def radd (n : Nat) (f : Nat → Int32) (i x : Int32) : Nat → Int32 := if i < 0 then f else if nI n ≤ i then f else upd f i.toNatClampNeg (f i.toNatClampNeg + x)
def rfill (n : Nat) (f : Nat → Int32) (x : Int32) : Nat → Int32 := fun j => if j < n then x else f j
theorem row_in {n : Nat} {i : Int32} (hn : n < 2 ^ 31) (h1 : ¬ i < 0) (h2 : ¬ nI n ≤ i) : vp_in i n := by
  rw [vp_in_iff]
  rw [Int32.lt_iff_toInt_lt] at h1
  rw [Int32.le_iff_toInt_le, nI_toInt hn] at h2
  have h0 : (0 : Int32).toInt = 0 := rfl
  omega
set_option maxRecDepth 20000 in
theorem kX3_get {l : Launch} {D : va_G} {Y : Nat → ClassId} {a b n : Nat} {f : Nat → Int32} {i : Int32} (hn : n < 2 ^ 31) : CMi l yX3_get cX3_get 2 (some .int) 0 0 D Y (wR Y a b n f) (wR Y a b n f) [.ref a, .int i] (rget n f i) := by
  refine cm_ofi (by decide) (Nat.le_of_ble_eq_true rfl) rfl (fun p e s m args below meth c A F hr hlk => ?_)
  show GW p l e { frames := 0, cells := 0, slots := 0, locals := 0 } s m args below meth c D A 2 0 0 (MQ below (QI D (wR Y a b n f) (rget n f i) A) args s 0 0 A) (wR Y a b n f) 0 [(0, .ref a), (1, .int i)] []
  have bad : ∀ (_ : Unit), -1 = rget n f i → GW p l e { frames := 0, cells := 0, slots := 0, locals := 0 } s m args below meth c D A 2 0 0 (MQ below (QI D (wR Y a b n f) (rget n f i) A) args s 0 0 A) (wR Y a b n f) 22 [(0, .ref a), (1, .int i)] [] := by
    intro _ hX
    refine g_iconst (v := -1) F dX3_get_22 (by decide) ?_
    exact g_retS F hr rfl hlk dX3_get_23 hX
  refine g_iload_n F dX3_get_0 1 rfl rfl ?_
  refine g_if_lt (tgt := 22) F dX3_get_1 (by decide) (fun c1 => ?_) (fun c1 => ?_)
  · exact bad () (if_pos c1).symm
  · refine g_iload_n F dX3_get_4 1 rfl rfl ?_
    refine g_aload_n F dX3_get_5 0 rfl rfl ?_
    refine G_X3_9 F dX3_get_6 ?_
    refine g_alen F 1 rfl (v := nI n) rfl dX3_get_9 ?_
    refine g_icmp_ge (tgt := 22) F dX3_get_10 (by decide) (fun c2 => ?_) (fun c2 => ?_)
    · exact bad () (by rw [rget, if_neg c1, if_pos c2])
    · refine g_aload_n F dX3_get_13 0 rfl rfl ?_
      refine G_X3_9 F dX3_get_14 ?_
      refine g_iload_n F dX3_get_17 1 rfl rfl ?_
      refine g_iald F 1 rfl (row_in hn c1 c2) dX3_get_18 ?_
      refine g_goto (tgt := 23) F dX3_get_19 (by decide) ?_
      exact g_retS F hr rfl hlk dX3_get_23 (by rw [rget, if_neg c1, if_neg c2])
set_option maxRecDepth 20000 in
theorem kX3_set {l : Launch} {D : va_G} {Y : Nat → ClassId} {a b n : Nat} {f : Nat → Int32} {i x : Int32} (hn : n < 2 ^ 31) : CMv l yX3_set cX3_set 3 0 0 D Y (wR Y a b n f) (wR Y a b n (rset n f i x)) [.ref a, .int i, .int x] := by
  refine cm_ofv (by decide) (Nat.le_of_ble_eq_true rfl) rfl (fun p e s m args below meth c A F hr hlk => ?_)
  show GW p l e { frames := 0, cells := 0, slots := 0, locals := 0 } s m args below meth c D A 3 0 0 (MQ below (QV D (wR Y a b n (rset n f i x)) A) args s 0 0 A) (wR Y a b n f) 0 [(0, .ref a), (1, .int i), (2, .int x)] []
  refine g_iload_n F dX3_set_0 1 rfl rfl ?_
  refine g_if_lt (tgt := 20) F dX3_set_1 (by decide) (fun c1 => ?_) (fun c1 => ?_)
  · rw [rset, if_pos c1]
    exact g_vret F hr hlk dX3_set_20
  · refine g_iload_n F dX3_set_4 1 rfl rfl ?_
    refine g_aload_n F dX3_set_5 0 rfl rfl ?_
    refine G_X3_9 F dX3_set_6 ?_
    refine g_alen F 1 rfl (v := nI n) rfl dX3_set_9 ?_
    refine g_icmp_ge (tgt := 20) F dX3_set_10 (by decide) (fun c2 => ?_) (fun c2 => ?_)
    · rw [rset, if_neg c1, if_pos c2]
      exact g_vret F hr hlk dX3_set_20
    · refine g_aload_n F dX3_set_13 0 rfl rfl ?_
      refine G_X3_9 F dX3_set_14 ?_
      refine g_iload_n F dX3_set_17 1 rfl rfl ?_
      refine g_iload_n F dX3_set_18 2 rfl rfl ?_
      refine g_iast F 1 rfl (row_in hn c1 c2) dX3_set_19 (ws' := wR Y a b n (upd f i.toNatClampNeg x)) rfl ?_
      rw [rset, if_neg c1, if_neg c2]
      exact g_vret F hr hlk dX3_set_20
set_option maxRecDepth 20000 in
theorem kX3_add {l : Launch} {D : va_G} {Y : Nat → ClassId} {a b n : Nat} {f : Nat → Int32} {i x : Int32} (hn : n < 2 ^ 31) : CMv l yX3_add cX3_add 3 0 0 D Y (wR Y a b n f) (wR Y a b n (radd n f i x)) [.ref a, .int i, .int x] := by
  refine cm_ofv (by decide) (Nat.le_of_ble_eq_true rfl) rfl (fun p e s m args below meth c A F hr hlk => ?_)
  show GW p l e { frames := 0, cells := 0, slots := 0, locals := 0 } s m args below meth c D A 3 0 0 (MQ below (QV D (wR Y a b n (radd n f i x)) A) args s 0 0 A) (wR Y a b n f) 0 [(0, .ref a), (1, .int i), (2, .int x)] []
  refine g_iload_n F dX3_add_0 1 rfl rfl ?_
  refine g_if_lt (tgt := 23) F dX3_add_1 (by decide) (fun c1 => ?_) (fun c1 => ?_)
  · rw [radd, if_pos c1]
    exact g_vret F hr hlk dX3_add_23
  · refine g_iload_n F dX3_add_4 1 rfl rfl ?_
    refine g_aload_n F dX3_add_5 0 rfl rfl ?_
    refine G_X3_9 F dX3_add_6 ?_
    refine g_alen F 1 rfl (v := nI n) rfl dX3_add_9 ?_
    refine g_icmp_ge (tgt := 23) F dX3_add_10 (by decide) (fun c2 => ?_) (fun c2 => ?_)
    · rw [radd, if_neg c1, if_pos c2]
      exact g_vret F hr hlk dX3_add_23
    · refine g_aload_n F dX3_add_13 0 rfl rfl ?_
      refine G_X3_9 F dX3_add_14 ?_
      refine g_iload_n F dX3_add_17 1 rfl rfl ?_
      refine g_dup2 F dX3_add_18 rfl rfl ?_
      refine g_iald F 1 rfl (row_in hn c1 c2) dX3_add_19 ?_
      refine g_iload_n F dX3_add_20 2 rfl rfl ?_
      refine g_iadd F dX3_add_21 ?_
      refine g_iast F 1 rfl (row_in hn c1 c2) dX3_add_22 (ws' := wR Y a b n (upd f i.toNatClampNeg (f i.toNatClampNeg + x))) rfl ?_
      rw [radd, if_neg c1, if_neg c2]
      exact g_vret F hr hlk dX3_add_23
set_option maxRecDepth 20000 in
theorem kX3_fill {l : Launch} {D : va_G} {Y : Nat → ClassId} {a b n : Nat} {f : Nat → Int32} {x : Int32} (hn : n < 2 ^ 31) : CMv l yX3_fill cX3_fill 3 0 0 D Y (wR Y a b n f) (wR Y a b n (rfill n f x)) [.ref a, .int x] := by
  refine cm_ofv (by decide) (Nat.le_of_ble_eq_true rfl) rfl (fun p e s m args below meth c A F hr hlk => ?_)
  show GW p l e { frames := 0, cells := 0, slots := 0, locals := 0 } s m args below meth c D A 3 0 0 (MQ below (QV D (wR Y a b n (rfill n f x)) A) args s 0 0 A) (wR Y a b n f) 0 [(0, .ref a), (1, .int x)] []
  have b2 : ∀ (k j : Nat) (g : Nat → Int32), j ≤ n → n ≤ j + k → (∀ i, g i = if i < j then (if i < n then x else f i) else f i) → GW p l e { frames := 0, cells := 0, slots := 0, locals := 0 } s m args below meth c D A 3 0 0 (MQ below (QV D (wR Y a b n (rfill n f x)) A) args s 0 0 A) (wR Y a b n g) 2 [(2, .int (nI j)), (0, .ref a), (1, .int x)] [] := by
    have hend : ∀ (j : Nat) (g : Nat → Int32), n ≤ j → (∀ i, g i = if i < j then (if i < n then x else f i) else f i) → g = rfill n f x := by
      intro j g hj hg
      funext i
      rw [hg i]
      unfold rfill
      by_cases h1 : i < j
      · rw [if_pos h1]
      · rw [if_neg h1, if_neg (by omega)]
    intro k
    induction k with
    | zero =>
      intro j g hj hk hg
      refine g_iload_n F dX3_fill_2 0 rfl rfl ?_
      refine g_aload_n F dX3_fill_3 1 rfl rfl ?_
      refine G_X3_9 F dX3_fill_4 ?_
      refine g_alen F 1 rfl (v := nI n) rfl dX3_fill_7 ?_
      refine g_icmp_ge (tgt := 24) F dX3_fill_8 (by decide) (fun c2 => ?_) (fun c2 => ?_)
      · rw [← hend j g (by omega) hg]
        exact g_vret F hr hlk dX3_fill_24
      · exact absurd (nI_le (by omega) (by omega)) c2
    | succ k ih =>
      intro j g hj hk hg
      refine g_iload_n F dX3_fill_2 0 rfl rfl ?_
      refine g_aload_n F dX3_fill_3 1 rfl rfl ?_
      refine G_X3_9 F dX3_fill_4 ?_
      refine g_alen F 1 rfl (v := nI n) rfl dX3_fill_7 ?_
      refine g_icmp_ge (tgt := 24) F dX3_fill_8 (by decide) (fun c2 => ?_) (fun c2 => ?_)
      · have hj2 : n ≤ j := by
          rcases Nat.lt_or_ge j n with h | h
          · exact absurd c2 (nI_ge h hn)
          · exact h
        rw [← hend j g hj2 hg]
        exact g_vret F hr hlk dX3_fill_24
      · have hj2 : j < n := by
          rcases Nat.lt_or_ge j n with h | h
          · exact h
          · exact absurd (nI_le h (by omega)) c2
        refine g_aload_n F dX3_fill_11 1 rfl rfl ?_
        refine G_X3_9 F dX3_fill_12 ?_
        refine g_iload_n F dX3_fill_15 0 rfl rfl ?_
        refine g_iload_n F dX3_fill_16 2 rfl rfl ?_
        refine g_iast F 1 rfl (vp_in_nI hj2 hn) dX3_fill_17 (ws' := wR Y a b n (upd g (nI j).toNatClampNeg x)) rfl ?_
        refine g_iinc (v := nI (j + 1)) (lv' := [(2, .int (nI (j + 1))), (0, .ref a), (1, .int x)]) F dX3_fill_18 0 rfl (nI_1 j) (by decide) rfl ?_
        refine g_goto (tgt := 2) F dX3_fill_21 (by decide) ?_
        refine ih (j + 1) _ hj2 (by omega) (fun i => ?_)
        rw [nI_clamp (by omega)]
        by_cases hi : i = j
        · subst hi
          rw [pk_us, if_pos (by omega), if_pos hj2]
        · rw [pk_un hi, hg i]
          by_cases h1 : i < j
          · rw [if_pos h1, if_pos (show i < j + 1 by omega)]
          · rw [if_neg h1, if_neg (by omega)]
  refine g_iconst (v := nI 0) F dX3_fill_0 (by decide) ?_
  refine g_istore_n (lv' := [(2, .int (nI 0)), (0, .ref a), (1, .int x)]) F dX3_fill_1 rfl (by decide) rfl ?_
  exact b2 n 0 f (Nat.zero_le _) (by omega) (fun i => by rw [if_neg (by omega)])
def rg (u : St) (k : Nat) (i : Int32) : Int32 := rget (rl k) (u.1 k) i
def rs (u : St) (k : Nat) (i x : Int32) : St := sA u k (rset (rl k) (u.1 k) i x)
def ra (u : St) (k : Nat) (i x : Int32) : St := sA u k (radd (rl k) (u.1 k) i x)
def rf (u : St) (k : Nat) (x : Int32) : St := sA u k (rfill (rl k) (u.1 k) x)
theorem rl_lt (k : Nat) : rl k < 2 ^ 31 := by
  unfold rl; split <;> decide

theorem lt22 {k : Nat} (h : k < 22) : k = 0 ∨ k = 1 ∨ k = 2 ∨ k = 3 ∨ k = 4 ∨ k = 5 ∨ k = 6 ∨ k = 7 ∨ k = 8 ∨ k = 9 ∨ k = 10 ∨ k = 11 ∨ k = 12 ∨ k = 13 ∨ k = 14 ∨ k = 15 ∨ k = 16 ∨ k = 17 ∨ k = 18 ∨ k = 19 ∨ k = 20 ∨ k = 21 := by omega
theorem wC_row {Y : Nat → ClassId} {q : Nat → Nat} {u : St} {k : Nat} (h : k < 22) : wC Y q u = (wC Y q u).take (6 + 2 * k) ++ wR Y (q (6 + 2 * k)) (q (7 + 2 * k)) (rl k) (u.1 k) ++ (wC Y q u).drop (8 + 2 * k) := by
  rcases lt22 h with rfl | rfl | rfl | rfl | rfl | rfl | rfl | rfl | rfl | rfl | rfl | rfl | rfl | rfl | rfl | rfl | rfl | rfl | rfl | rfl | rfl | rfl <;> rfl
theorem wC_rowA {Y : Nat → ClassId} {q : Nat → Nat} {u : St} {k : Nat} {f : Nat → Int32} (h : k < 22) : (wC Y q u).take (6 + 2 * k) ++ wR Y (q (6 + 2 * k)) (q (7 + 2 * k)) (rl k) f ++ (wC Y q u).drop (8 + 2 * k) = wC Y q (sA u k f) := by
  rcases lt22 h with rfl | rfl | rfl | rfl | rfl | rfl | rfl | rfl | rfl | rfl | rfl | rfl | rfl | rfl | rfl | rfl | rfl | rfl | rfl | rfl | rfl | rfl <;> rfl
theorem C_rget {p : Program} {l : Launch} {e : Env} {R : Room} {s : State} {m : MethodId} {args : Array Value} {below : List Frame} {meth : Method} {c : Code} {D : va_G} {Y : Nat → ClassId} {A : Nat → Prop} {cc : ByteArray} {nL : Nat} {own : String} {Q : State → Prop} {pc : Nat} {lv : List (Nat × Value)} {rest : List Value} {q : Nat → Nat} {u : St} {i : Int32} (F : Fx p s m args c D Y A cc nL own) (k : Nat) (hk : k < 22) {index : Nat} (hml : Cond.methodLink own index yX3_get ∈ TBL) (hR : 0 + 1 ≤ R.frames ∧ 8 + (2 + 11) + 0 ≤ R.locals) (hcat : (rest.map fun v => v.category).sum ≤ 8) (hd : decode cc pc = .ok (.invokevirtual index, 3)) (kk : GW p l e R s m args below meth c D A nL 0 0 Q (wC Y q u) (pc + 3) lv (.int (rg u k i) :: rest)) : GW p l e R s m args below meth c D A nL 0 0 Q (wC Y q u) pc lv (.int i :: .ref (q (6 + 2 * k)) :: rest) := g_callVi (n := 1) (q0 := 0) (As := [.int i]) F _ _ (kX3_get (a := q (6 + 2 * k)) (b := q (7 + 2 * k)) (f := u.1 k) (rl_lt k)) (wC_row hk) ((wC_row hk).symm) (by unfold mOK; decide +kernel) rfl rfl cd_yX3_get hml im_yX3_get se_yX3_get in_X3 rfl rfl hR ⟨Nat.zero_le _, Nat.zero_le _⟩ rfl hcat hd kk
theorem C_rset {p : Program} {l : Launch} {e : Env} {R : Room} {s : State} {m : MethodId} {args : Array Value} {below : List Frame} {meth : Method} {c : Code} {D : va_G} {Y : Nat → ClassId} {A : Nat → Prop} {cc : ByteArray} {nL : Nat} {own : String} {Q : State → Prop} {pc : Nat} {lv : List (Nat × Value)} {rest : List Value} {q : Nat → Nat} {u : St} {i x : Int32} (F : Fx p s m args c D Y A cc nL own) (k : Nat) (hk : k < 22) {index : Nat} (hml : Cond.methodLink own index yX3_set ∈ TBL) (hR : 0 + 1 ≤ R.frames ∧ 8 + (3 + 11) + 0 ≤ R.locals) (hcat : (rest.map fun v => v.category).sum ≤ 8) (hd : decode cc pc = .ok (.invokevirtual index, 3)) (kk : GW p l e R s m args below meth c D A nL 0 0 Q (wC Y q (rs u k i x)) (pc + 3) lv (rest)) : GW p l e R s m args below meth c D A nL 0 0 Q (wC Y q u) pc lv (.int x :: .int i :: .ref (q (6 + 2 * k)) :: rest) := g_callVv (n := 2) (q0 := 0) (As := [.int i, .int x]) F _ _ (kX3_set (a := q (6 + 2 * k)) (b := q (7 + 2 * k)) (f := u.1 k) (rl_lt k)) (wC_row hk) (wC_rowA hk) (by unfold mOK; decide +kernel) rfl rfl cd_yX3_set hml im_yX3_set se_yX3_set in_X3 rfl rfl hR ⟨Nat.zero_le _, Nat.zero_le _⟩ rfl hcat hd kk
theorem C_radd {p : Program} {l : Launch} {e : Env} {R : Room} {s : State} {m : MethodId} {args : Array Value} {below : List Frame} {meth : Method} {c : Code} {D : va_G} {Y : Nat → ClassId} {A : Nat → Prop} {cc : ByteArray} {nL : Nat} {own : String} {Q : State → Prop} {pc : Nat} {lv : List (Nat × Value)} {rest : List Value} {q : Nat → Nat} {u : St} {i x : Int32} (F : Fx p s m args c D Y A cc nL own) (k : Nat) (hk : k < 22) {index : Nat} (hml : Cond.methodLink own index yX3_add ∈ TBL) (hR : 0 + 1 ≤ R.frames ∧ 8 + (3 + 11) + 0 ≤ R.locals) (hcat : (rest.map fun v => v.category).sum ≤ 8) (hd : decode cc pc = .ok (.invokevirtual index, 3)) (kk : GW p l e R s m args below meth c D A nL 0 0 Q (wC Y q (ra u k i x)) (pc + 3) lv (rest)) : GW p l e R s m args below meth c D A nL 0 0 Q (wC Y q u) pc lv (.int x :: .int i :: .ref (q (6 + 2 * k)) :: rest) := g_callVv (n := 2) (q0 := 0) (As := [.int i, .int x]) F _ _ (kX3_add (a := q (6 + 2 * k)) (b := q (7 + 2 * k)) (f := u.1 k) (rl_lt k)) (wC_row hk) (wC_rowA hk) (by unfold mOK; decide +kernel) rfl rfl cd_yX3_add hml im_yX3_add se_yX3_add in_X3 rfl rfl hR ⟨Nat.zero_le _, Nat.zero_le _⟩ rfl hcat hd kk
theorem C_rfill {p : Program} {l : Launch} {e : Env} {R : Room} {s : State} {m : MethodId} {args : Array Value} {below : List Frame} {meth : Method} {c : Code} {D : va_G} {Y : Nat → ClassId} {A : Nat → Prop} {cc : ByteArray} {nL : Nat} {own : String} {Q : State → Prop} {pc : Nat} {lv : List (Nat × Value)} {rest : List Value} {q : Nat → Nat} {u : St} {x : Int32} (F : Fx p s m args c D Y A cc nL own) (k : Nat) (hk : k < 22) {index : Nat} (hml : Cond.methodLink own index yX3_fill ∈ TBL) (hR : 0 + 1 ≤ R.frames ∧ 8 + (3 + 11) + 0 ≤ R.locals) (hcat : (rest.map fun v => v.category).sum ≤ 8) (hd : decode cc pc = .ok (.invokevirtual index, 3)) (kk : GW p l e R s m args below meth c D A nL 0 0 Q (wC Y q (rf u k x)) (pc + 3) lv (rest)) : GW p l e R s m args below meth c D A nL 0 0 Q (wC Y q u) pc lv (.int x :: .ref (q (6 + 2 * k)) :: rest) := g_callVv (n := 1) (q0 := 0) (As := [.int x]) F _ _ (kX3_fill (a := q (6 + 2 * k)) (b := q (7 + 2 * k)) (f := u.1 k) (rl_lt k)) (wC_row hk) (wC_rowA hk) (by unfold mOK; decide +kernel) rfl rfl cd_yX3_fill hml im_yX3_fill se_yX3_fill in_X3 rfl rfl hR ⟨Nat.zero_le _, Nat.zero_le _⟩ rfl hcat hd kk
theorem tab_out4 {x : Int32} (h0 : ¬ x = 0) (h1 : ¬ x = 1) (h2 : ¬ x = 2) (h3 : ¬ x = 3) : x.toInt < 0 ∨ 3 < x.toInt := by
  rw [← Int32.toInt_inj] at h0 h1 h2 h3
  have e0 : (0 : Int32).toInt = 0 := rfl
  have e1 : (1 : Int32).toInt = 1 := rfl
  have e2 : (2 : Int32).toInt = 2 := rfl
  have e3 : (3 : Int32).toInt = 3 := rfl
  omega
theorem tab_out5 {x : Int32} (h0 : ¬ x = 0) (h1 : ¬ x = 1) (h2 : ¬ x = 2) (h3 : ¬ x = 3) (h4 : ¬ x = 4) : x.toInt < 0 ∨ 4 < x.toInt := by
  have h := tab_out4 h0 h1 h2 h3
  rw [← Int32.toInt_inj] at h4
  have e4 : (4 : Int32).toInt = 4 := rfl
  omega
theorem tab_out6 {x : Int32} (h0 : ¬ x = 0) (h1 : ¬ x = 1) (h2 : ¬ x = 2) (h3 : ¬ x = 3) (h4 : ¬ x = 4) (h5 : ¬ x = 5) : x.toInt < 0 ∨ 5 < x.toInt := by
  have h := tab_out5 h0 h1 h2 h3 h4
  rw [← Int32.toInt_inj] at h5
  have e5 : (5 : Int32).toInt = 5 := rfl
  omega
theorem g_lookup {p : Program} {l : Launch} {e : Env} {R : Room} {s : State} {m : MethodId} {args : Array Value} {below : List Frame} {meth : Method} {c : Code} {D : va_G} {Y : Nat → ClassId} {A : Nat → Prop} {cc : ByteArray} {nL : Nat} {own : String} {cells slots : Nat} {Q : State → Prop} {ws : va_W} {pc : Nat} {lv : List (Nat × Value)} {st : List Value} (F : Fx p s m args c D Y A cc nL own) {dflt : Int} {ps : Array (Int × Int)} {len : Nat} {x : Int32} {off : Int} {tgt : Nat} (hd : decode cc pc = .ok (.lookupswitch dflt ps, len)) (hp : (ps.toList.zip (ps.toList.drop 1)).all (fun (a, next) => a.1 < next.1) = true) (ho : Op.lookupswitch.offset ps.toList dflt x.toInt = off) (ht : (pc : Int) + off = (tgt : Int)) (k : GW p l e R s m args below meth c D A nL cells slots Q ws tgt lv st) : GW p l e R s m args below meth c D A nL cells slots Q ws pc lv (.int x :: st) := fun H locs ls hP hD hS hl => lv_lookup F.1 F.2.1 hd hp ho ht (k H locs ls hP hD hS hl)
theorem look_out2 {x : Int32} {o0 o1 d : Int} (h0 : ¬ x = 0) (h1 : ¬ x = 1) : Op.lookupswitch.offset (#[((0 : Int), o0), (1, o1)] : Array (Int × Int)).toList d x.toInt = d := by
  rw [← Int32.toInt_inj] at h0 h1
  have e0 : (0 : Int32).toInt = 0 := rfl
  have e1 : (1 : Int32).toInt = 1 := rfl
  show (if (0 : Int) = x.toInt then o0 else if (1 : Int) = x.toInt then o1 else d) = d
  rw [if_neg (by omega), if_neg (by omega)]
theorem nar01 {v : Int32} (h : v = 0 ∨ v = 1) : narrow .boolean (.int v) = .int v := by
  rcases h with rfl | rfl <;> rfl
theorem g_retCb {p : Program} {l : Launch} {e : Env} {R : Room} {s : State} {m : MethodId} {args : Array Value} {below : List Frame} {meth : Method} {c : Code} {D : va_G} {Y : Nat → ClassId} {A : Nat → Prop} {cc : ByteArray} {nL : Nat} {own : String} {cells slots : Nat} {pc : Nat} {lv : List (Nat × Value)} {wf : St → va_W} {u u1 : St} {v r : Int32} (F : Fx p s m args c D Y A cc nL own) (hr : meth.sig.returnType = some .boolean) (hlocks : meth.locks = false) (hd : decode cc pc = .ok (.ireturn, 1)) (hX : (if v = 0 ∨ v = 1 then some (v, u) else none) = some (r, u1)) : GW p l e R s m args below meth c D A nL cells slots (MQ below (QI D (wf u1) r A) args s cells slots A) (wf u) pc lv [.int v] := by
  by_cases h : v = 0 ∨ v = 1
  · rw [if_pos h] at hX
    refine g_retC F hr ?_ hlocks hd hX
    rcases h with rfl | rfl <;> rfl
  · rw [if_neg h] at hX; cases hX

