/-! METHODS THAT THROW: contracts that return or throw (k = 0: returns; 1, 2, 3: the exception) -/
def exN (k : Nat) : String := match k with
  | 1 => "java/lang/IndexOutOfBoundsException"
  | 2 => "java/lang/IllegalArgumentException"
  | _ => "java/lang/IllegalStateException"
abbrev NMS : List String := ["java/lang/RuntimeException", "java/lang/Exception"]
def strs : List (Nat × String) := [(69, "no such slot"), (86, "a cold box is there"), (102, "a bound is out of range"), (108, "no such bay"), (110, "water is out of range"), (124, "hours is out of range"), (141, "no such crane"), (143, "the reach is out of range"), (145, "lifts is out of range"), (156, "no such port"), (161, "no such stack"), (163, "weight is out of range"), (165, "truth is out of range"), (167, "kind is out of range"), (172, "there were 60 boxes"), (178, "the stack may not have it"), (190, "no such box"), (192, "no such paper"), (200, "no port that can be left out"), (205, "the port is not ahead"), (216, "what is out of range"), (219, "there are 20 orders"), (228, "no such order"), (233, "the hour would be above 1000"), (248, "she cannot leave"), (267, "no such place"), (295, "the box is not on the ship")]
def DCL : List MethodName := [⟨"java/lang/RuntimeException", "<init>", "(Ljava/lang/String;)V"⟩, ⟨"java/lang/Exception", "<init>", "(Ljava/lang/String;)V"⟩, ⟨"java/lang/Throwable", "<init>", "(Ljava/lang/String;)V"⟩]
/-- a word that a throw of the exception k needs -/
def thrW (k : Nat) (w : Cond) : Prop := (w ∈ lw_tbl ∧ goodWord w = true) ∨ w = .castable (exN k) (exN k) ∨ w ∈ DCL.map Cond.declares
/-- what throwing stands on, beside the tables -/
def KT (A : Nat → Prop) (U : State) : Prop := ((∀ k, va_Nw (.castable (exN k) (exN k)) U) ∧ ∀ x ∈ DCL, va_Nw (.declares x) U) ∧ (∀ z ∈ strs, ∃ sa, vk_R RX6 z.1 z.2 sa U) ∧ vx_Zq Bundle.tN "UNASSIGNED_STACK" Bundle.steD A U U.heap ∧ vx_Zq Bundle.tN "SUPPRESSED_SENTINEL" Bundle.listD A U U.heap
theorem KT.same {A : Nat → Prop} {s U : State} (hv : s.vm = U.vm) (hh : s.heap = U.heap) (h : KT A s) : KT A U := by
  have ha : s.vm.Alike U.vm := by rw [hv]; exact Vm.Alike.refl U.vm
  refine ⟨⟨fun k => va_Nw.same rfl hv (h.1.1 k), fun x hx => va_Nw.same rfl hv (h.1.2 x hx)⟩, fun z hz => ?_, ?_, ?_⟩
  · obtain ⟨sa, h1⟩ := h.2.1 z hz
    exact ⟨sa, vk_R.same hv.symm h1⟩
  · rw [← hh]; exact vx_Zq.moved ha h.2.2.1
  · rw [← hh]; exact vx_Zq.moved ha h.2.2.2
def QB (b : Bool) (D : va_G) (w1 : va_W) (x : Int32) (A : Nat → Prop) : Array Value → State → Outcome → State → Prop := match b with
  | true => QV D w1 A
  | false => QI D w1 x A
def XCt (D : va_G) (w1 : va_W) (A : Nat → Prop) (k : Nat) : String → State → State → Prop := fun E st t => k ≠ 0 ∧ E = exN k ∧ va_P D classes w1 t.heap ∧ va_D A w1 ∧ va_F A st t
def QT (b : Bool) (below : List Frame) (args : Array Value) (s : State) (D : va_G) (w1 : va_W) (A : Nat → Prop) (k : Nat) (x : Int32) : State → Prop := vx_MQ below (fun a st o t => k = 0 ∧ QB b D w1 x A a st o t) (XCt D w1 A k) args s 1 6 A
def PCt (D : va_G) (Y : Nat → ClassId) (wc : va_W) (vals : List Value) (sz : Nat) : Array Value → State → Prop := va_Pc vals (fun U => U.heap.size = sz ∧ va_P D classes wc U.heap ∧ KK D Y U ∧ va_D (fun _ => True) wc ∧ KT (va_A wc sz) U)
theorem PCt.blind {D : va_G} {Y : Nat → ClassId} {wc : va_W} {vals : List Value} {sz : Nat} : FrameBlind (PCt D Y wc vals sz) := fun a U g mk h => ⟨h.1, h.2.1, h.2.2.1, KK.same (s := U) (U := U.calling g mk a) rfl h.2.2.2.1, h.2.2.2.2.1, KT.same (s := U) (U := U.calling g mk a) rfl rfl h.2.2.2.2.2⟩
def CMt (b : Bool) (l : Launch) (y : MethodName) (bytes : ByteArray) (maxL : Nat) (ret : Option FieldType) (fr lo : Nat) (D : va_G) (Y : Nat → ClassId) (wc w1 : va_W) (vals : List Value) (k : Nat) (x : Int32) : Prop :=
  ∀ sz, vx_Met l y (.code y bytes maxL ret :: TBL) { frames := fr, cells := 1, slots := 6, locals := lo } (PCt D Y wc vals sz) (fun a st o t => k = 0 ∧ QB b D w1 x (va_A wc sz) a st o t) (XCt D w1 (va_A wc sz) k) 1 6 (va_A wc sz)
theorem cm_oft {b : Bool} {l : Launch} {y : MethodName} {bytes : ByteArray} {maxL : Nat} {ret : Option FieldType} {fr lo : Nat} {D : va_G} {Y : Nat → ClassId} {wc w1 : va_W} {vals : List Value} {lv0 : List (Nat × Value)} {k : Nat} {x : Int32} (hy : plainName y.cls = true) (hn : (lg_sl vals).length ≤ maxL) (h0 : lv_args 0 vals = lv0)
    (body : ∀ (p : Program) (e : Env) (s : State) (m : MethodId) (args : Array Value) (below : List Frame) (meth : Method) (c : Code) (A : Nat → Prop), Fx p s m args c D Y A bytes maxL y.cls → meth.sig.returnType = ret → meth.locks = false → KT A s → (∀ x ∈ c.exceptionTable.toList, False) → GW p l e { frames := fr, cells := 1, slots := 6, locals := lo } s m args below meth c D A maxL 0 0 (QT b below args s D w1 A k x) wc 0 lv0 []) : CMt b l y bytes maxL ret fr lo D Y wc w1 vals k x := by
  intro sz
  refine vx_ofW (cc := bytes) (maxL := maxL) (ret := ret) hy rfl ?_
  intro p e s m args below meth c s₁ B hml hex hv
  obtain ⟨rfl, hsz, hP, hK, hD0, hT⟩ := hv
  have hts := atoms_spec (ws := .code y bytes maxL ret :: TBL) B.pre
  have hown : s.vm.findClass y.cls = some m.cls := findClass_of_methodNamed B.named
  subst hsz
  have hD := hD0.self (sz := s.heap.size)
  have hA : ∀ q : Nat, s.heap.size ≤ q → va_A wc s.heap.size q := fun q h => Or.inr h
  have hl := lv_entry vals (n := maxL) hn
  rw [lg_entry_eq]
  rw [h0] at hl
  exact body p e s m vals.toArray below meth c (va_A wc s.heap.size) ⟨B.exec, B.bytes, hml, hown, fun w hw => hts w (List.mem_cons_of_mem _ hw), hK, hA⟩ B.returns B.notSynchronized hT hex s.heap [] _ hP hD va_S.rf hl
section THROWS
variable {p : Program} {l : Launch} {e : Env} {R : Room} {s : State} {m : MethodId} {args : Array Value} {below : List Frame} {meth : Method} {c : Code} {D : va_G} {Y : Nat → ClassId} {A : Nat → Prop} {cc : ByteArray} {nL : Nat} {own : String} {pc : Nat} {lv : List (Nat × Value)} {st : List Value} {wf : St → va_W} {u u1 : St} {v r : Int32} {k : Nat}
theorem g_retT (F : Fx p s m args c D Y A cc nL own) {ty : FieldType} (hr : meth.sig.returnType = some ty) (hn : narrow ty (.int v) = .int v) (hlocks : meth.locks = false) (hd : decode cc pc = .ok (.ireturn, 1)) (hX : some (0, v, u) = some (k, r, u1)) : GW p l e R s m args below meth c D A nL 0 0 (QT false below args s D (wf u1) A k r) (wf u) pc lv [.int v] := by
  cases hX
  intro H locs ls hP hD hS hl
  refine vx_ret ?_
  refine W.widen (k := 1) (n := 6) (Nat.zero_le _) (Nat.zero_le _) ?_
  exact W.zret F.1 F.2.1 hr hn (fun t ht _ => ⟨rfl, ⟨v, (), rfl, rfl, by rw [ht]; exact hP, hD⟩, hS.F ht⟩) hS.2.2 hd hlocks
theorem g_retTb (F : Fx p s m args c D Y A cc nL own) (hr : meth.sig.returnType = some .boolean) (hlocks : meth.locks = false) (hd : decode cc pc = .ok (.ireturn, 1)) (hX : (if v = 0 ∨ v = 1 then some (0, v, u) else none) = some (k, r, u1)) : GW p l e R s m args below meth c D A nL 0 0 (QT false below args s D (wf u1) A k r) (wf u) pc lv [.int v] := by
  by_cases h : v = 0 ∨ v = 1
  · rw [if_pos h] at hX
    exact g_retT F hr (nar01 h) hlocks hd hX
  · rw [if_neg h] at hX; cases hX
theorem g_retTv (F : Fx p s m args c D Y A cc nL own) (hr : meth.sig.returnType = none) (hlocks : meth.locks = false) (hd : decode cc pc = .ok (.return_, 1)) (hX : some (0, v, u) = some (k, r, u1)) : GW p l e R s m args below meth c D A nL 0 0 (QT true below args s D (wf u1) A k r) (wf u) pc lv [] := by
  cases hX
  intro H locs ls hP hD hS hl
  refine vx_ret ?_
  refine W.widen (k := 1) (n := 6) (Nat.zero_le _) (Nat.zero_le _) ?_
  exact W.vret F.1 F.2.1 hr (fun t ht _ => ⟨rfl, ⟨(), rfl, trivial, by rw [ht]; exact hP, hD⟩, hS.F ht⟩) hS.2.2 hd hlocks
theorem thr_x {H : Heap} {locs : List Loc} {ws : va_W} {kc : Nat} (h0 : kc ≠ 0) (hP : va_P D classes ws H) (hD : va_D A ws) (hS : va_S A s.heap H locs) : ∀ t : State, s.vm.Alike t.vm → H.size ≤ t.heap.size → (∀ q : Nat, q < H.size → t.heap[q]? = H[q]?) → XCt D ws A kc (exN kc) s t := by
  intro t _ h1 h2
  refine ⟨h0, rfl, wP_iff.mpr fun q hq => ?_, hD, Nat.le_trans hS.1 h1, fun q hq hA => ?_⟩
  · have h3 := wP_iff.mp hP q hq
    exact h3.kept (h2 q.1 h3.lt)
  · rw [h2 q (Nat.lt_of_lt_of_le hq hS.1)]
    exact hS.2.1 q hq hA
theorem thr_at {F0 : Fx p s m args c D Y A cc nL own} {hT : KT A s} {ic kc : Nat} (h : ∀ w ∈ vx_atS RX6 ic (exN kc) NMS, thrW kc w) : ∀ w ∈ vx_atS RX6 ic (exN kc) NMS, w.before args s = true := by
  intro w hw
  rcases h w hw with h | h | h
  · exact F0.2.2.2.2.1 w (List.mem_filter.mpr h)
  · rw [h]; exact va_Nw.use rfl (hT.1.1 kc)
  · obtain ⟨x, hx, rfl⟩ := List.mem_map.mp h
    exact va_Nw.use rfl (hT.1.2 x hx)
theorem thr_good {ic kc ik : Nat} (h : ∀ w ∈ vx_atS RX6 ic (exN kc) NMS, thrW kc w) : ∀ w ∈ Cond.classLink RX6 ik (exN kc) :: Cond.initialized (exN kc) :: vx_atS RX6 ic (exN kc) NMS, vx_ot w = true := by
  intro w hw
  rcases List.mem_cons.mp hw with rfl | hw
  · rfl
  rcases List.mem_cons.mp hw with rfl | hw
  · rfl
  rcases h w hw with h | h | h
  · show (w.onTables || goodWord w) = true
    rw [h.2]; exact Bool.or_true _
  · rw [h]; rfl
  · obtain ⟨x, hx, rfl⟩ := List.mem_map.mp h
    rfl
theorem g_throwS {b : Bool} (F : Fx p s m args c D Y A cc nL RX6) (hl9 : l.stackTraces = false) (hT : KT A s) (hex : ∀ x ∈ c.exceptionTable.toList, False) (hlk : meth.locks = false) {kc ik is ic : Nat} {text : String} (hk : Cond.classLink RX6 ik (exN kc) ∈ TBL) (hini : Cond.initialized (exN kc) ∈ TBL) (hstr : (is, text) ∈ strs) (hat : ∀ w ∈ vx_atS RX6 ic (exN kc) NMS, thrW kc w) (h0 : kc ≠ 0) (hfit : Bundle.fit (exN kc) = true)
    (d0 : decode cc pc = .ok (.new ik, 3)) (d3 : decode cc (pc + 3) = .ok (.dup, 1)) (d4 : decode cc (pc + 4) = .ok (.ldc is, 2)) (d6 : decode cc (pc + 6) = .ok (.invokespecial ic, 3)) (d9 : decode cc (pc + 9) = .ok (.athrow, 1)) (hR : 5 < R.frames ∧ 82 ≤ R.locals ∧ 1 ≤ R.cells ∧ 6 ≤ R.slots)
    (hX : some (kc, (0 : Int32), u) = some (k, r, u1)) : GW p l e R s m args below meth c D A nL 0 0 (QT b below args s D (wf u1) A k r) (wf u) pc lv [] := by
  cases hX
  intro H locs ls hP hD hS hl
  obtain ⟨sa, hsa⟩ := hT.2.1 _ hstr
  exact vx_throwS (names := NMS) F.1 F.2.1 hl9 F.2.2.2.1 hfit (by decide +kernel) (F.2.2.2.2.1 _ hk) (F.2.2.2.2.1 _ hini) hsa (thr_at (F0 := F) (hT := hT) hat) (thr_good hat) hT.2.2.1 hT.2.2.2 hS (hl.1.trans F.2.2.1.symm) d0 d3 d4 d6 d9 (fun x hx => (hex x hx).elim) hR.1 (by show 0 + 82 ≤ R.locals; omega) (by omega) (by omega) hlk (thr_x h0 hP hD hS) hS.2.2 (Nat.le_refl _) (Nat.le_refl _)
theorem g_throwSW {b : Bool} (F : Fx p s m args c D Y A cc nL RX6) (hl9 : l.stackTraces = false) (hT : KT A s) (hex : ∀ x ∈ c.exceptionTable.toList, False) (hlk : meth.locks = false) {kc ik is ic : Nat} {text : String} (hk : Cond.classLink RX6 ik (exN kc) ∈ TBL) (hini : Cond.initialized (exN kc) ∈ TBL) (hstr : (is, text) ∈ strs) (hat : ∀ w ∈ vx_atS RX6 ic (exN kc) NMS, thrW kc w) (h0 : kc ≠ 0) (hfit : Bundle.fit (exN kc) = true)
    (d0 : decode cc pc = .ok (.new ik, 3)) (d3 : decode cc (pc + 3) = .ok (.dup, 1)) (d4 : decode cc (pc + 4) = .ok (.ldc_w is, 3)) (d7 : decode cc (pc + 7) = .ok (.invokespecial ic, 3)) (d10 : decode cc (pc + 10) = .ok (.athrow, 1)) (hR : 5 < R.frames ∧ 82 ≤ R.locals ∧ 1 ≤ R.cells ∧ 6 ≤ R.slots)
    (hX : some (kc, (0 : Int32), u) = some (k, r, u1)) : GW p l e R s m args below meth c D A nL 0 0 (QT b below args s D (wf u1) A k r) (wf u) pc lv [] := by
  cases hX
  intro H locs ls hP hD hS hl
  obtain ⟨sa, hsa⟩ := hT.2.1 _ hstr
  exact vx_throwSW (names := NMS) F.1 F.2.1 hl9 F.2.2.2.1 hfit (by decide +kernel) (F.2.2.2.2.1 _ hk) (F.2.2.2.2.1 _ hini) hsa (thr_at (F0 := F) (hT := hT) hat) (thr_good hat) hT.2.2.1 hT.2.2.2 hS (hl.1.trans F.2.2.1.symm) d0 d3 d4 d7 d10 (fun x hx => (hex x hx).elim) hR.1 (by show 0 + 82 ≤ R.locals; omega) (by omega) (by omega) hlk (thr_x h0 hP hD hS) hS.2.2 (Nat.le_refl _) (Nat.le_refl _)
end THROWS
theorem at_71 : ∀ w ∈ vx_atS RX6 71 (exN 1) NMS, thrW 1 w := by unfold thrW; decide +kernel
theorem at_104 : ∀ w ∈ vx_atS RX6 104 (exN 2) NMS, thrW 2 w := by unfold thrW; decide +kernel
theorem at_88 : ∀ w ∈ vx_atS RX6 88 (exN 3) NMS, thrW 3 w := by unfold thrW; decide +kernel
