/-! THE CLAIM OUT OF ONE WALK OF THE LAW'S BODY. Your part is whole_start (and what it stands on); all else here is the same for every law, but numbers. -/
def R_law : String := "CargoHeelLaw"
def lw_P (b : Addr) (xs : List Int32) (args : Array Value) (s : State) : Prop := args = #[.ref b] ∧ s.IntsAt b xs ∧ xs.length ≤ 3072 ∧ (Jvm.Cond.and given_1 narrow_1).before args s = true
def lw_Q (_ : Array Value) (s : State) (o : Outcome) (t : State) : Prop := o = .returned (some (.int 1)) ∧ Framed s o t [] 601024 7293034
def lw_Z (below : List Frame) (a : Array Value) (s : State) : State → Prop := fun t => ∃ o, t.status = .running ∧ Ended t below o ∧ lw_Q a s o t
/-- the law's own end, with 1 on the stack, nothing written that was there before, its room as the claim has it -/
theorem lw_ret {p : Program} {l : Launch} {e : Env} {s : State} {m : MethodId} {below : List Frame} {meth : Method} {c : Code} {b : Nat} (hx : p.tables.exec = Jvm.exec) (hb : c.code = code) (hr : meth.sig.returnType = ret) (hlocks : meth.locks = false) {pc : Nat} {H : Heap} {ls : Array Slot} (hdg : decode code pc = .ok (.ireturn, 1)) : W p l e room_1 s m #[Value.ref b] below meth c H [] 601024 7293034 (lw_Z below #[Value.ref b] s) (F0 m pc ls [.int 1]) := by
  intro T hT X
  obtain ⟨fs, hret, hrun, hended, hW, hframe⟩ := X.leave (v := some (.int 1)) (hlocks := hlocks) (fun h => by rw [hr] at h; cases h)
  have hmeth' : T.vm.method? m = some meth := X.method'
  refine ⟨T.setFrames fs, ?_, .returned (some (.int 1)), hrun, hended, rfl, ⟨_, rfl⟩, hW, hframe⟩
  jvm_step X.here [X.here.top, hx, hb, hdg, hmeth', hr, ret, narrow_b1]
  (try refine ⟨rfl, ?_⟩); (try refine ⟨rfl, ?_⟩)
  first | (intro acts; rw [hret _ acts rfl rfl rfl]) | rw [hret _ _ rfl rfl rfl]
  exact Steps.refl _
/-- what holds at the law's entry: the machine, the code, the tables' words (any of lw_tbl by 'hts w (by decide +kernel)'), the script of L ints xs at the cell b, what the Statement gives of the start (any of its parts by flat_of_before) -/
def lw_At (p : Program) (s : State) (m : MethodId) (meth : Method) (c : Code) (b L : Nat) (xs : Nat → Int32) : Prop :=
  p.tables.exec = Jvm.exec ∧ c.code = code ∧ meth.sig.returnType = ret ∧ c.maxLocals = 7 ∧ s.vm.findClass R_law = some m.cls ∧ (∀ w ∈ lw_tbl, w.before #[Value.ref b] s = true) ∧ va_X b L xs s s.heap ∧ b < s.heap.size ∧ meth.locks = false ∧ (Jvm.Cond.and given_1 narrow_1).before #[Value.ref b] s = true
/-! THE LAW'S LOOP, over what the two sides answer -/
def SALL (Rel : St → St → Prop) : Prop := Sx_plug Rel ∧ Sx_bounds Rel ∧ Sx_tank Rel ∧ Sx_jam Rel ∧ Sx_crane Rel ∧ Sx_box Rel ∧ Sx_paper Rel ∧ Sx_skip Rel ∧ Sx_order Rel ∧ Sx_drop Rel ∧ Sx_pass Rel ∧ Sx_leave Rel ∧ Sx_hour Rel ∧ Sx_port Rel ∧ Sx_cost Rel ∧ Sx_of Rel ∧ Sx_at Rel ∧ Sx_inYard Rel ∧ Sx_hatch Rel ∧ Sx_moment Rel ∧ Sx_momentAnew Rel ∧ Sx_bars Rel ∧ Sx_dig Rel ∧ Sx_orders Rel ∧ Sx_can Rel ∧ Sx_may Rel
theorem lt26 {k : Nat} (h : k ≤ 25) : k = 0 ∨ k = 1 ∨ k = 2 ∨ k = 3 ∨ k = 4 ∨ k = 5 ∨ k = 6 ∨ k = 7 ∨ k = 8 ∨ k = 9 ∨ k = 10 ∨ k = 11 ∨ k = 12 ∨ k = 13 ∨ k = 14 ∨ k = 15 ∨ k = 16 ∨ k = 17 ∨ k = 18 ∨ k = 19 ∨ k = 20 ∨ k = 21 ∨ k = 22 ∨ k = 23 ∨ k = 24 ∨ k = 25 := by omega
theorem sub6 {L j : Nat} (hL : L ≤ 3072) (hj : 6 * j ≤ L) : (nI L - 6 < nI (6 * j)) ↔ L < 6 * j + 6 := by
  have e6 : (6 : Int32).toInt = 6 := rfl
  have e : (nI L - 6).toInt = (L : Int) - 6 := by
    rw [Int32.toInt_sub, nI_toInt (by omega), e6]
    exact Int.bmod_eq_of_le (by omega) (by omega)
  rw [Int32.lt_iff_toInt_lt, e, nI_toInt (by omega)]
  omega
theorem sw_cases (x : Int32) : (x.toInt < 0 ∨ 25 < x.toInt) ∨ ∃ n : Nat, n ≤ 25 ∧ x = nI n := by
  by_cases h1 : x.toInt < 0 ∨ 25 < x.toInt
  · exact Or.inl h1
  · refine Or.inr ⟨x.toInt.toNat, by omega, ?_⟩
    rw [← Int32.toInt_inj, nI_toInt (by omega)]
    omega
theorem g_end {p : Program} {l : Launch} {e : Env} {s : State} {m : MethodId} {below : List Frame} {meth : Method} {c : Code} {D : va_G} {Y : Nat → ClassId} {b : Nat} {cells slots : Nat} {ws : va_W} {pc : Nat} {lv : List (Nat × Value)} (F : Fx p s m #[Value.ref b] c D Y (fun q => s.heap.size ≤ q) code 7 RL) (hr : meth.sig.returnType = ret) (hlocks : meth.locks = false) (hd : decode code pc = .ok (.ireturn, 1)) (hc : cells ≤ 601024) (hs : slots ≤ 7293034) : GW p l e room_1 s m #[Value.ref b] below meth c D (fun q => s.heap.size ≤ q) 7 cells slots (lw_Z below #[Value.ref b] s) ws pc lv [.int 1] := by
  intro H locs ls hP hD hS hl
  refine va_forget (fun q hq => hS.2.2 q hq) ?_
  refine W.widen (k := 601024) (n := 7293034) hc hs ?_
  exact lw_ret F.1 F.2.1 hr hlocks hd
set_option maxHeartbeats 4000000 in
set_option maxRecDepth 20000 in
theorem law_loop {p : Program} {l : Launch} {e : Env} {s : State} {m : MethodId} {below : List Frame} {meth : Method} {c : Code} {D : va_G} {Y : Nat → ClassId} {b L : Nat} {xs : Nat → Int32} (F : Fx p s m #[Value.ref b] c D Y (fun q => s.heap.size ≤ q) code 7 RL) (hr : meth.sig.returnType = ret) (hlocks : meth.locks = false) (HX : va_X b L xs s s.heap ∧ b < s.heap.size ∧ ¬ (fun q => s.heap.size ≤ q) b) (hKX : KX (fun q => s.heap.size ≤ q) s) (hl9 : l.stackTraces = false) (hL : L ≤ 3072) {q q' : Nat → Nat} {o : Nat} {Rel : St → St → Prop} (S : SALL Rel) :
    ∀ (n j : Nat), 6 * j ≤ L → L < 6 * (j + n) → ∀ (u v : St) (f : Nat → Int64), Rel u v → GW p l e room_1 s m #[Value.ref b] below meth c D (fun q => s.heap.size ≤ q) 7 (74 + j) (1518 + 6 * j) (lw_Z below #[Value.ref b] s) (wM Y q' v ++ (wC Y q u ++ outW Y o f)) 23 [(4, .int (nI (6 * j))), (3, .ref o), (2, .ref (q' 0)), (1, .ref (q 0)), (0, .ref b)] [] := by
  intro n
  induction n with
  | zero => intro j h1 h2; exact absurd h2 (by omega)
  | succ n ih =>
    intro j hj hn u v f hR
    refine g_iload F dL_law_23 0 rfl ?_
    refine g_aload_n F dL_law_25 4 rfl rfl ?_
    refine g_slen F HX dL_law_26 ?_
    refine g_bipush (v := 6) F dL_law_27 (by decide) ?_
    refine g_isub F dL_law_29 ?_
    refine g_icmp_gt (tgt := 1599) F dL_law_30 (by decide) (fun c1 => ?_) (fun c1 => ?_)
    · refine g_iconst (v := 1) F dL_law_1599 (by decide) ?_
      exact g_end F hr hlocks dL_law_1600 (by omega) (by omega)
    · have hj6 : 6 * j + 6 ≤ L := by
        rcases Nat.lt_or_ge L (6 * j + 6) with h | h
        · exact absurd ((sub6 hL hj).mpr h) c1
        · exact h
      have next : ∀ u1 v1 f1, Rel u1 v1 → GW p l e room_1 s m #[Value.ref b] below meth c D (fun q => s.heap.size ≤ q) 7 (74 + j + 1) (1518 + 6 * j + 6) (lw_Z below #[Value.ref b] s) (wM Y q' v1 ++ (wC Y q u1 ++ outW Y o f1)) 1593 [(4, .int (nI (6 * j))), (3, .ref o), (2, .ref (q' 0)), (1, .ref (q 0)), (0, .ref b)] [] := by
        intro u1 v1 f1 hR1
        refine g_iinc (v := nI (6 * (j + 1))) (lv' := [(4, .int (nI (6 * (j + 1)))), (3, .ref o), (2, .ref (q' 0)), (1, .ref (q 0)), (0, .ref b)]) F dL_law_1593 0 rfl (nI_add (6 * j) 6) (by decide) rfl ?_
        refine g_goto (tgt := 23) F dL_law_1596 (by decide) ?_
        exact ih (j + 1) (by omega) (by omega) u1 v1 f1 hR1
      refine g_aload_n F dL_law_33 4 rfl rfl ?_
      refine g_iload F dL_law_34 0 rfl ?_
      refine g_sld F HX (vp_in_nI (by omega) (by omega)) dL_law_36 ?_
      refine g_bipush (v := 31) F dL_law_37 (by decide) ?_
      refine g_iand F dL_law_39 ?_
      generalize xs (nI (6 * j)).toNatClampNeg &&& 31 = z
      rcases sw_cases z with hz | ⟨k, hk, rfl⟩
      · refine g_tabOut (tgt := 1593) F dL_law_40 hz (by decide) ?_
        refine g_widen (k := 74 + j + 1) (n := 1518 + 6 * j + 6) (by omega) (by omega) ?_
        exact next u v f hR
      · rcases lt26 hk with rfl | rfl | rfl | rfl | rfl | rfl | rfl | rfl | rfl | rfl | rfl | rfl | rfl | rfl | rfl | rfl | rfl | rfl | rfl | rfl | rfl | rfl | rfl | rfl | rfl | rfl
        · exact g_tabIn (tgt := 160) F dL_law_40 (by decide) (by decide) rfl (by decide) (L_plug F HX hKX hl9 hj6 hL (S.1) hR next)
        · exact g_tabIn (tgt := 223) F dL_law_40 (by decide) (by decide) rfl (by decide) (L_bounds F HX hKX hl9 hj6 hL (S.2.1) hR next)
        · exact g_tabIn (tgt := 283) F dL_law_40 (by decide) (by decide) rfl (by decide) (L_tank F HX hKX hl9 hj6 hL (S.2.2.1) hR next)
        · exact g_tabIn (tgt := 351) F dL_law_40 (by decide) (by decide) rfl (by decide) (L_jam F HX hKX hl9 hj6 hL (S.2.2.2.1) hR next)
        · exact g_tabIn (tgt := 419) F dL_law_40 (by decide) (by decide) rfl (by decide) (L_crane F HX hKX hl9 hj6 hL (S.2.2.2.2.1) hR next)
        · exact g_tabIn (tgt := 491) F dL_law_40 (by decide) (by decide) rfl (by decide) (L_box F HX hKX hl9 hj6 hL (S.2.2.2.2.2.1) hR next)
        · exact g_tabIn (tgt := 595) F dL_law_40 (by decide) (by decide) rfl (by decide) (L_paper F HX hKX hl9 hj6 hL (S.2.2.2.2.2.2.1) hR next)
        · exact g_tabIn (tgt := 670) F dL_law_40 (by decide) (by decide) rfl (by decide) (L_skip F HX hKX hl9 hj6 hL (S.2.2.2.2.2.2.2.1) hR next)
        · exact g_tabIn (tgt := 726) F dL_law_40 (by decide) (by decide) rfl (by decide) (L_order F HX hKX hl9 hj6 hL (S.2.2.2.2.2.2.2.2.1) hR next)
        · exact g_tabIn (tgt := 806) F dL_law_40 (by decide) (by decide) rfl (by decide) (L_drop F HX hKX hl9 hj6 hL (S.2.2.2.2.2.2.2.2.2.1) hR next)
        · exact g_tabIn (tgt := 862) F dL_law_40 (by decide) (by decide) rfl (by decide) (L_pass F HX hKX hl9 hj6 hL (S.2.2.2.2.2.2.2.2.2.2.1) hR next)
        · exact g_tabIn (tgt := 918) F dL_law_40 (by decide) (by decide) rfl (by decide) (L_leave F HX hKX hl9 hj6 hL (S.2.2.2.2.2.2.2.2.2.2.2.1) hR next)
        · exact g_tabIn (tgt := 962) F dL_law_40 (by decide) (by decide) rfl (by decide) (L_hour F HX hKX hl9 hj6 hL (S.2.2.2.2.2.2.2.2.2.2.2.2.1) hR next)
        · exact g_tabIn (tgt := 975) F dL_law_40 (by decide) (by decide) rfl (by decide) (L_port F HX hKX hl9 hj6 hL (S.2.2.2.2.2.2.2.2.2.2.2.2.2.1) hR next)
        · exact g_tabIn (tgt := 988) F dL_law_40 (by decide) (by decide) rfl (by decide) (L_cost F HX hKX hl9 hj6 hL (S.2.2.2.2.2.2.2.2.2.2.2.2.2.2.1) hR next)
        · exact g_tabIn (tgt := 1001) F dL_law_40 (by decide) (by decide) rfl (by decide) (L_of F HX hKX hl9 hj6 hL (S.2.2.2.2.2.2.2.2.2.2.2.2.2.2.2.1) hR next)
        · exact g_tabIn (tgt := 1069) F dL_law_40 (by decide) (by decide) rfl (by decide) (L_at F HX hKX hl9 hj6 hL (S.2.2.2.2.2.2.2.2.2.2.2.2.2.2.2.2.1) hR next)
        · exact g_tabIn (tgt := 1125) F dL_law_40 (by decide) (by decide) rfl (by decide) (L_inYard F HX hKX hl9 hj6 hL (S.2.2.2.2.2.2.2.2.2.2.2.2.2.2.2.2.2.1) hR next)
        · exact g_tabIn (tgt := 1193) F dL_law_40 (by decide) (by decide) rfl (by decide) (L_hatch F HX hKX hl9 hj6 hL (S.2.2.2.2.2.2.2.2.2.2.2.2.2.2.2.2.2.2.1) hR next)
        · exact g_tabIn (tgt := 1249) F dL_law_40 (by decide) (by decide) rfl (by decide) (L_moment F HX hKX hl9 hj6 hL (S.2.2.2.2.2.2.2.2.2.2.2.2.2.2.2.2.2.2.2.1) hR next)
        · exact g_tabIn (tgt := 1305) F dL_law_40 (by decide) (by decide) rfl (by decide) (L_momentAnew F HX hKX hl9 hj6 hL (S.2.2.2.2.2.2.2.2.2.2.2.2.2.2.2.2.2.2.2.2.1) hR next)
        · exact g_tabIn (tgt := 1361) F dL_law_40 (by decide) (by decide) rfl (by decide) (L_bars F HX hKX hl9 hj6 hL (S.2.2.2.2.2.2.2.2.2.2.2.2.2.2.2.2.2.2.2.2.2.1) hR next)
        · exact g_tabIn (tgt := 1374) F dL_law_40 (by decide) (by decide) rfl (by decide) (L_dig F HX hKX hl9 hj6 hL (S.2.2.2.2.2.2.2.2.2.2.2.2.2.2.2.2.2.2.2.2.2.2.1) hR next)
        · exact g_tabIn (tgt := 1430) F dL_law_40 (by decide) (by decide) rfl (by decide) (L_orders F HX hKX hl9 hj6 hL (S.2.2.2.2.2.2.2.2.2.2.2.2.2.2.2.2.2.2.2.2.2.2.2.1) hR next)
        · exact g_tabIn (tgt := 1443) F dL_law_40 (by decide) (by decide) rfl (by decide) (L_can F HX hKX hl9 hj6 hL (S.2.2.2.2.2.2.2.2.2.2.2.2.2.2.2.2.2.2.2.2.2.2.2.2.1) hR next)
        · exact g_tabIn (tgt := 1518) F dL_law_40 (by decide) (by decide) rfl (by decide) (L_may F HX hKX hl9 hj6 hL (S.2.2.2.2.2.2.2.2.2.2.2.2.2.2.2.2.2.2.2.2.2.2.2.2.2) hR next)
