/-! CONTRACTS AND CALLS over the judgement GW -/
theorem wP_iff {D : va_G} {cl : List vw_C} {ws : va_W} {H : Heap} : va_P D cl ws H ↔ ∀ q ∈ ws, va_at D cl q H := by
  constructor
  · intro h q hq
    obtain ⟨k, hk⟩ := List.mem_iff_getElem?.mp hq
    exact h k q hk
  · intro h k q hk
    exact h q (List.mem_of_getElem? hk)
theorem nodup_i {l : List Nat} : l.Nodup ↔ ∀ (i j : Nat) (hi : i < l.length) (hj : j < l.length), i < j → l[i] ≠ l[j] := List.pairwise_iff_getElem
theorem wD_iff {A : Nat → Prop} {ws : va_W} : va_D A ws ↔ (ws.map Prod.fst).Nodup ∧ ∀ q ∈ ws, A q.1 := by
  constructor
  · intro h
    refine ⟨?_, fun q hq => ?_⟩
    · rw [nodup_i]
      intro i j hi hj hij he
      rw [List.length_map] at hi hj
      rw [List.getElem_map, List.getElem_map] at he
      have h1 := h.1 i j ws[i] ws[j] (List.getElem?_eq_getElem hi) (List.getElem?_eq_getElem hj) he
      omega
    · obtain ⟨k, hk⟩ := List.mem_iff_getElem?.mp hq
      exact h.2 k q hk
  · rintro ⟨h1, h2⟩
    refine ⟨fun i j p q hi hj he => ?_, fun k q hk => h2 q (List.mem_of_getElem? hk)⟩
    rw [nodup_i] at h1
    obtain ⟨li, ei⟩ := List.getElem?_eq_some_iff.mp hi
    obtain ⟨lj, ej⟩ := List.getElem?_eq_some_iff.mp hj
    have li' : i < (ws.map Prod.fst).length := by rw [List.length_map]; exact li
    have lj' : j < (ws.map Prod.fst).length := by rw [List.length_map]; exact lj
    have hm : (ws.map Prod.fst)[i] = (ws.map Prod.fst)[j] := by rw [List.getElem_map, List.getElem_map, ei, ej]; exact he
    rcases Nat.lt_trichotomy i j with h | h | h
    · exact absurd hm (h1 i j li' lj' h)
    · exact h
    · exact absurd hm.symm (h1 j i lj' li' h)
theorem wA_iff {ws : va_W} {sz q : Nat} : va_A ws sz q ↔ q ∈ ws.map Prod.fst ∨ sz ≤ q := by
  constructor
  · rintro (⟨k, e, h⟩ | h)
    · exact Or.inl (List.mem_map.mpr ⟨(q, e), List.mem_of_getElem? h, rfl⟩)
    · exact Or.inr h
  · rintro (h | h)
    · obtain ⟨⟨q', e⟩, h1, rfl⟩ := List.mem_map.mp h
      obtain ⟨k, hk⟩ := List.mem_iff_getElem?.mp h1
      exact Or.inl ⟨k, e, hk⟩
    · exact Or.inr h
/-- the frame rule: what lies ahead of a callee's cells and behind them stays -/
theorem w_frame {A0 : Nat → Prop} {D : va_G} {cl : List vw_C} {pre wc post w1 : va_W} {H H1 : Heap} (hP : va_P D cl (pre ++ wc ++ post) H) (hD : va_D A0 (pre ++ wc ++ post)) (hk : ∀ q : Nat, q < H.size → ¬ va_A wc H.size q → H1[q]? = H[q]?) (hF : ∀ q, va_A wc H.size q → A0 q) (hP1 : va_P D cl w1 H1) (hD1 : va_D (va_A wc H.size) w1) : va_P D cl (pre ++ w1 ++ post) H1 ∧ va_D A0 (pre ++ w1 ++ post) := by
  rw [wP_iff] at hP hP1
  rw [wD_iff] at hD hD1
  have hnd := hD.1
  rw [List.map_append, List.map_append, List.nodup_append, List.nodup_append] at hnd
  obtain ⟨⟨n1, n2, n3⟩, n4, n5⟩ := hnd
  have hpre : ∀ q ∈ pre, ¬ va_A wc H.size q.1 := by
    intro q hq h
    rcases wA_iff.mp h with h | h
    · exact n3 q.1 (List.mem_map.mpr ⟨q, hq, rfl⟩) q.1 h rfl
    · exact absurd (hP q (List.mem_append_left _ (List.mem_append_left _ hq))).lt (Nat.not_lt.mpr h)
  have hpost : ∀ q ∈ post, ¬ va_A wc H.size q.1 := by
    intro q hq h
    rcases wA_iff.mp h with h | h
    · exact n5 q.1 (List.mem_append_right _ h) q.1 (List.mem_map.mpr ⟨q, hq, rfl⟩) rfl
    · exact absurd (hP q (List.mem_append_right _ hq)).lt (Nat.not_lt.mpr h)
  refine ⟨wP_iff.mpr fun q hq => ?_, wD_iff.mpr ⟨?_, fun q hq => ?_⟩⟩
  · rcases List.mem_append.mp hq with hq | hq
    · rcases List.mem_append.mp hq with hq | hq
      · have h0 := hP q (List.mem_append_left _ (List.mem_append_left _ hq))
        exact h0.kept (hk q.1 h0.lt (hpre q hq))
      · exact hP1 q hq
    · have h0 := hP q (List.mem_append_right _ hq)
      exact h0.kept (hk q.1 h0.lt (hpost q hq))
  · rw [List.map_append, List.map_append, List.nodup_append, List.nodup_append]
    have hin : ∀ a ∈ w1.map Prod.fst, va_A wc H.size a := by
      intro a ha
      obtain ⟨q, hq, rfl⟩ := List.mem_map.mp ha
      exact hD1.2 q hq
    refine ⟨⟨n1, hD1.1, ?_⟩, n4, ?_⟩
    · rintro a ha b hb rfl
      obtain ⟨q, hq, rfl⟩ := List.mem_map.mp ha
      exact hpre q hq (hin _ hb)
    · rintro a ha b hb rfl
      obtain ⟨q, hq, rfl⟩ := List.mem_map.mp hb
      rcases List.mem_append.mp ha with ha | ha
      · exact n5 _ (List.mem_append_left _ ha) _ (List.mem_map.mpr ⟨q, hq, rfl⟩) rfl
      · exact hpost q hq (hin _ ha)
  · rcases List.mem_append.mp hq with hq | hq
    · rcases List.mem_append.mp hq with hq | hq
      · exact hD.2 q (List.mem_append_left _ (List.mem_append_left _ hq))
      · exact hF _ (hD1.2 q hq)
    · exact hD.2 q (List.mem_append_right _ hq)
theorem w_subP {D : va_G} {cl : List vw_C} {pre wc post : va_W} {H : Heap} (hP : va_P D cl (pre ++ wc ++ post) H) : va_P D cl wc H := wP_iff.mpr fun q hq => wP_iff.mp hP q (List.mem_append_left _ (List.mem_append_right _ hq))
theorem w_subD {A : Nat → Prop} {pre wc post : va_W} (hD : va_D A (pre ++ wc ++ post)) : va_D (fun _ => True) wc := by
  rw [wD_iff] at hD ⊢
  have h := hD.1
  rw [List.map_append, List.map_append, List.nodup_append, List.nodup_append] at h
  exact ⟨h.1.2.1, fun _ _ => trivial⟩
theorem w_subA {A : Nat → Prop} {pre wc post : va_W} {sz : Nat} (hD : va_D A (pre ++ wc ++ post)) (hA : ∀ q, sz ≤ q → A q) : ∀ q, va_A wc sz q → A q := by
  intro q h
  rw [wD_iff] at hD
  rcases wA_iff.mp h with h | h
  · obtain ⟨x, hx, rfl⟩ := List.mem_map.mp h
    exact hD.2 x (List.mem_append_left _ (List.mem_append_right _ hx))
  · exact hA q h
/-- a contract: the world wc becomes w1, and the answer is x -/
def PC (D : va_G) (Y : Nat → ClassId) (wc : va_W) (vals : List Value) (sz : Nat) : Array Value → State → Prop := va_Pc vals (fun U => U.heap.size = sz ∧ va_P D classes wc U.heap ∧ KK D Y U ∧ va_D (fun _ => True) wc)
theorem PC.blind {D : va_G} {Y : Nat → ClassId} {wc : va_W} {vals : List Value} {sz : Nat} : FrameBlind (PC D Y wc vals sz) := fun a U g mk h => ⟨h.1, h.2.1, h.2.2.1, KK.same (s := U) (U := U.calling g mk a) rfl h.2.2.2.1, h.2.2.2.2⟩
def CMi (l : Launch) (y : MethodName) (bytes : ByteArray) (maxL : Nat) (ret : Option FieldType) (fr lo : Nat) (D : va_G) (Y : Nat → ClassId) (wc w1 : va_W) (vals : List Value) (x : Int32) : Prop :=
  ∀ sz, Met l y (.code y bytes maxL ret :: TBL) { frames := fr, cells := 0, slots := 0, locals := lo } (PC D Y wc vals sz) (QI D w1 x (va_A wc sz)) 0 0 (va_A wc sz)
def CMv (l : Launch) (y : MethodName) (bytes : ByteArray) (maxL : Nat) (fr lo : Nat) (D : va_G) (Y : Nat → ClassId) (wc w1 : va_W) (vals : List Value) : Prop :=
  ∀ sz, Met l y (.code y bytes maxL none :: TBL) { frames := fr, cells := 0, slots := 0, locals := lo } (PC D Y wc vals sz) (QV D w1 (va_A wc sz)) 0 0 (va_A wc sz)
section OFS
variable {l : Launch} {y : MethodName} {bytes : ByteArray} {maxL : Nat} {ret : Option FieldType} {fr lo : Nat} {D : va_G} {Y : Nat → ClassId} {wc w1 : va_W} {vals : List Value} {lv0 : List (Nat × Value)}
theorem cm_base {Q9 : (Nat → Prop) → List Frame → Array Value → State → State → Prop} {Qc : (Nat → Prop) → Array Value → State → Outcome → State → Prop} (hy : plainName y.cls = true) (hn : (lg_sl vals).length ≤ maxL) (h0 : lv_args 0 vals = lv0)
    (body : ∀ (p : Program) (e : Env) (s : State) (m : MethodId) (args : Array Value) (below : List Frame) (meth : Method) (c : Code) (A : Nat → Prop), Fx p s m args c D Y A bytes maxL y.cls → meth.sig.returnType = ret → meth.locks = false → GW p l e { frames := fr, cells := 0, slots := 0, locals := lo } s m args below meth c D A maxL 0 0 (MQ below (Qc A) args s 0 0 A) wc 0 lv0 []) (sz : Nat) :
    Met l y (.code y bytes maxL ret :: TBL) { frames := fr, cells := 0, slots := 0, locals := lo } (PC D Y wc vals sz) (Qc (va_A wc sz)) 0 0 (va_A wc sz) := by
  refine Met.ofW (cc := bytes) (maxL := maxL) (ret := ret) hy rfl ?_
  intro p e s m args below meth c s₁ B hml hv
  obtain ⟨rfl, hsz, hP, hK, hD0⟩ := hv
  have hts := atoms_spec (ws := .code y bytes maxL ret :: TBL) B.pre
  have hown : s.vm.findClass y.cls = some m.cls := findClass_of_methodNamed B.named
  subst hsz
  have hD := hD0.self (sz := s.heap.size)
  have hA : ∀ q : Nat, s.heap.size ≤ q → va_A wc s.heap.size q := fun q h => Or.inr h
  have hl := lv_entry vals (n := maxL) hn
  rw [lg_entry_eq]
  rw [h0] at hl
  exact body p e s m vals.toArray below meth c (va_A wc s.heap.size) ⟨B.exec, B.bytes, hml, hown, fun w hw => hts w (List.mem_cons_of_mem _ hw), hK, hA⟩ B.returns B.notSynchronized s.heap [] _ hP hD va_S.rf hl
theorem cm_ofi {x : Int32} (hy : plainName y.cls = true) (hn : (lg_sl vals).length ≤ maxL) (h0 : lv_args 0 vals = lv0)
    (body : ∀ (p : Program) (e : Env) (s : State) (m : MethodId) (args : Array Value) (below : List Frame) (meth : Method) (c : Code) (A : Nat → Prop), Fx p s m args c D Y A bytes maxL y.cls → meth.sig.returnType = ret → meth.locks = false → GW p l e { frames := fr, cells := 0, slots := 0, locals := lo } s m args below meth c D A maxL 0 0 (MQ below (QI D w1 x A) args s 0 0 A) wc 0 lv0 []) : CMi l y bytes maxL ret fr lo D Y wc w1 vals x := fun sz => cm_base (Q9 := fun _ _ _ _ _ => True) (Qc := fun A => QI D w1 x A) hy hn h0 body sz
theorem cm_ofv (hy : plainName y.cls = true) (hn : (lg_sl vals).length ≤ maxL) (h0 : lv_args 0 vals = lv0)
    (body : ∀ (p : Program) (e : Env) (s : State) (m : MethodId) (args : Array Value) (below : List Frame) (meth : Method) (c : Code) (A : Nat → Prop), Fx p s m args c D Y A bytes maxL y.cls → meth.sig.returnType = none → meth.locks = false → GW p l e { frames := fr, cells := 0, slots := 0, locals := lo } s m args below meth c D A maxL 0 0 (MQ below (QV D w1 A) args s 0 0 A) wc 0 lv0 []) : CMv l y bytes maxL fr lo D Y wc w1 vals := fun sz => cm_base (Q9 := fun _ _ _ _ _ => True) (Qc := fun A => QV D w1 A) hy hn h0 body sz
end OFS
section CALLS
variable {p : Program} {l : Launch} {e : Env} {R : Room} {s : State} {m : MethodId} {args : Array Value} {below : List Frame} {meth : Method} {c : Code} {D : va_G} {Y : Nat → ClassId} {A : Nat → Prop} {cc : ByteArray} {nL : Nat} {own : String} {cells slots : Nat} {Q : State → Prop} {ws ws1 wc w1 : va_W} {pc : Nat} {lv : List (Nat × Value)} {st rest : List Value}
variable {y : MethodName} {bytes : ByteArray} {maxL : Nat} {ret : Option FieldType} {fr lo index b q0 ci n : Nat} {As : List Value} {fs : List Value} {C : String} {T : u_T} {N : Nat} {x : Int32}
def mOK (y : MethodName) (n : Nat) : Prop := y.cls ≠ "java/lang/invoke/MethodHandle" ∧ y.cls ≠ "java/lang/invoke/VarHandle" ∧ (parseMethodDescriptor y.desc).map (fun d => d.parameters.length) = some n
theorem g_hp (F : Fx p s m args c D Y A cc nL own) {H : Heap} {vals : List Value} (hP : va_P D classes wc H) (hD : va_D (fun _ => True) wc) : ∀ U : State, U.heap = H → s.WarmedH U.vm → PC D Y wc vals H.size vals.toArray U := fun U hU hW => ⟨rfl, by rw [hU], by rw [hU]; exact hP, KK.warm hW F.2.2.2.2.2.1, hD⟩
theorem g_callVi (F : Fx p s m args c D Y A cc nL own) (pre post : va_W) (hM : CMi l y bytes maxL ret fr lo D Y wc w1 (.ref b :: As) x) (hws : ws = pre ++ wc ++ post) (hw1 : pre ++ w1 ++ post = ws1) (hy : mOK y n) (hn : As.length = n) (hcl : y.cls = C) (hcd : Cond.code y bytes maxL ret ∈ TBL) (hml : Cond.methodLink own index y ∈ TBL) (him : Cond.instanceMethod y ∈ TBL) (hse : Cond.selects C y y ∈ TBL) (hin : Cond.initialized C ∈ TBL)
    (he : wc[q0]? = some (b, .inr (ci, fs))) (hc : classes[ci]? = some (C, T, N)) (hR : fr + 1 ≤ R.frames ∧ 8 + (maxL + 11) + lo ≤ R.locals) (hcs : cells ≤ R.cells ∧ slots ≤ R.slots) (hst : st = As.reverse ++ .ref b :: rest) (hcat : (rest.map fun v => v.category).sum ≤ 8) (hd : decode cc pc = .ok (.invokevirtual index, 3))
    (kk : GW p l e R s m args below meth c D A nL cells slots Q ws1 (pc + 3) lv (.int x :: rest)) : GW p l e R s m args below meth c D A nL cells slots Q ws pc lv st := by
  intro H locs ls hP hD hS hl
  subst hws hw1 hst
  have hPc := w_subP hP
  have hDc := w_subD hD
  have hA : ∀ q, H.size ≤ q → A q := fun q h => F.2.2.2.2.2.2 q (Nat.le_trans hS.1 h)
  have hFc := w_subA hD hA
  refine va_calli (va_runV (As := As) (rest := rest) ⟨F.1, F.2.1, F.2.2.1, F.2.2.2.1, F.2.2.2.2.1⟩ (hM H.size) (cwV (C := C) n F.2.2.2.2.1 ?_ rfl rfl rfl ⟨hcl, hy⟩ hR) ⟨PC.blind, va_recv F.2.2.2.2.2.1.1 hPc hc he, g_hp F hPc hDc⟩ rfl hn hl.1 rfl (lv_room hcat) hd hcs) hS (fun q _ h => hFc q h) hFc (fun r u t H1 locs1 ht hvm hw hB hz1 hk1 hS1 => ?_)
  · intro w hw
    have hT : w ∈ TBL := by
      rcases List.mem_append.mp hw with h | h
      · simp only [List.mem_cons, List.not_mem_nil, or_false] at h
        rcases h with rfl | rfl | rfl | rfl
        · exact hml
        · exact him
        · exact hse
        · exact hin
      · rcases List.mem_cons.mp h with h | h
        · rw [h]; exact hcd
        · exact h
    exact ⟨hT, good_of_word (tbl_good hT)⟩
  · obtain rfl : r = x := hw
    rw [ht] at hB
    obtain ⟨hP1, hD1⟩ := w_frame hP hD hk1 hFc hB.1 hB.2
    exact kk H1 locs1 ls hP1 hD1 hS1 hl
theorem g_callVv (F : Fx p s m args c D Y A cc nL own) (pre post : va_W) (hM : CMv l y bytes maxL fr lo D Y wc w1 (.ref b :: As)) (hws : ws = pre ++ wc ++ post) (hw1 : pre ++ w1 ++ post = ws1) (hy : mOK y n) (hn : As.length = n) (hcl : y.cls = C) (hcd : Cond.code y bytes maxL none ∈ TBL) (hml : Cond.methodLink own index y ∈ TBL) (him : Cond.instanceMethod y ∈ TBL) (hse : Cond.selects C y y ∈ TBL) (hin : Cond.initialized C ∈ TBL)
    (he : wc[q0]? = some (b, .inr (ci, fs))) (hc : classes[ci]? = some (C, T, N)) (hR : fr + 1 ≤ R.frames ∧ 8 + (maxL + 11) + lo ≤ R.locals) (hcs : cells ≤ R.cells ∧ slots ≤ R.slots) (hst : st = As.reverse ++ .ref b :: rest) (hcat : (rest.map fun v => v.category).sum ≤ 8) (hd : decode cc pc = .ok (.invokevirtual index, 3))
    (kk : GW p l e R s m args below meth c D A nL cells slots Q ws1 (pc + 3) lv rest) : GW p l e R s m args below meth c D A nL cells slots Q ws pc lv st := by
  intro H locs ls hP hD hS hl
  subst hws hw1 hst
  have hPc := w_subP hP
  have hDc := w_subD hD
  have hA : ∀ q, H.size ≤ q → A q := fun q h => F.2.2.2.2.2.2 q (Nat.le_trans hS.1 h)
  have hFc := w_subA hD hA
  refine va_callv (va_runV (As := As) (rest := rest) ⟨F.1, F.2.1, F.2.2.1, F.2.2.2.1, F.2.2.2.2.1⟩ (hM H.size) (cwV (C := C) n F.2.2.2.2.1 ?_ rfl rfl rfl ⟨hcl, hy⟩ hR) ⟨PC.blind, va_recv F.2.2.2.2.2.1.1 hPc hc he, g_hp F hPc hDc⟩ rfl hn hl.1 rfl (lv_room hcat) hd hcs) hS (fun q _ h => hFc q h) hFc (fun u t H1 locs1 ht hvm hw hB hz1 hk1 hS1 => ?_)
  · intro w hw
    have hT : w ∈ TBL := by
      rcases List.mem_append.mp hw with h | h
      · simp only [List.mem_cons, List.not_mem_nil, or_false] at h
        rcases h with rfl | rfl | rfl | rfl
        · exact hml
        · exact him
        · exact hse
        · exact hin
      · rcases List.mem_cons.mp h with h | h
        · rw [h]; exact hcd
        · exact h
    exact ⟨hT, good_of_word (tbl_good hT)⟩
  · rw [ht] at hB
    obtain ⟨hP1, hD1⟩ := w_frame hP hD hk1 hFc hB.1 hB.2
    exact kk H1 locs1 ls hP1 hD1 hS1 hl
/-- a static call: its contract over the empty world -/
theorem g_callS (F : Fx p s m args c D Y A cc nL own) (hM : CMi l y bytes maxL ret fr lo D Y [] [] As x) (hy : mOK y n) (hn : As.length = n) (hcd : Cond.code y bytes maxL ret ∈ TBL) (hml : Cond.methodLink own index y ∈ TBL) (hsm : Cond.static y ∈ TBL) (hin : Cond.initialized y.cls ∈ TBL)
    (hR : fr + 1 ≤ R.frames ∧ 8 + (maxL + 11) + lo ≤ R.locals) (hcs : cells ≤ R.cells ∧ slots ≤ R.slots) (hst : st = As.reverse ++ rest) (hcat : (rest.map fun v => v.category).sum ≤ 8) (hd : decode cc pc = .ok (.invokestatic index, 3))
    (kk : GW p l e R s m args below meth c D A nL cells slots Q ws (pc + 3) lv (.int x :: rest)) : GW p l e R s m args below meth c D A nL cells slots Q ws pc lv st := by
  intro H locs ls hP hD hS hl
  subst hst
  have hP' : va_P D classes (ws ++ [] ++ []) H := by simpa using hP
  have hD' : va_D A (ws ++ [] ++ []) := by simpa using hD
  have hPc := w_subP hP'
  have hDc := w_subD hD'
  have hA : ∀ q, H.size ≤ q → A q := fun q h => F.2.2.2.2.2.2 q (Nat.le_trans hS.1 h)
  have hFc := w_subA hD' hA
  refine va_calli (va_runS (As := As) (rest := rest) ⟨F.1, F.2.1, F.2.2.1, F.2.2.2.1, F.2.2.2.2.1⟩ (hM H.size) (va_cwS n F.2.2.2.2.1 ?_ rfl rfl rfl hy hR) ⟨PC.blind, g_hp F hPc hDc⟩ rfl hn hl.1 rfl (lv_room hcat) hd hcs) hS (fun q _ h => hFc q h) hFc (fun r u t H1 locs1 ht hvm hw hB hz1 hk1 hS1 => ?_)
  · intro w hw
    have hT : w ∈ TBL := by
      rcases List.mem_append.mp hw with h | h
      · simp only [List.mem_cons, List.not_mem_nil, or_false] at h
        rcases h with rfl | rfl | rfl
        · exact hml
        · exact hsm
        · exact hin
      · rcases List.mem_cons.mp h with h | h
        · rw [h]; exact hcd
        · exact h
    exact ⟨hT, good_of_word (tbl_good hT)⟩
  · obtain rfl : r = x := hw
    rw [ht] at hB
    obtain ⟨hP1, hD1⟩ := w_frame hP' hD' hk1 hFc hB.1 hB.2
    exact kk H1 locs1 ls (by simpa using hP1) (by simpa using hD1) hS1 hl
/-- a static call of a nest mate's private method -/
theorem g_callSN (F : Fx p s m args c D Y A cc nL own) {host : String} (hM : CMi l y bytes maxL ret fr lo D Y [] [] As x) (hy : mOK y n) (hn : As.length = n) (hcd : Cond.code y bytes maxL ret ∈ TBL) (hml : va_Nw (.methodLinkNest own index y host) s) (hsm : Cond.static y ∈ TBL) (hin : Cond.initialized y.cls ∈ TBL)
    (hR : fr + 1 ≤ R.frames ∧ 8 + (maxL + 11) + lo ≤ R.locals) (hcs : cells ≤ R.cells ∧ slots ≤ R.slots) (hst : st = As.reverse ++ rest) (hcat : (rest.map fun v => v.category).sum ≤ 8) (hd : decode cc pc = .ok (.invokestatic index, 3))
    (kk : GW p l e R s m args below meth c D A nL cells slots Q ws (pc + 3) lv (.int x :: rest)) : GW p l e R s m args below meth c D A nL cells slots Q ws pc lv st := by
  intro H locs ls hP hD hS hl
  subst hst
  have hP' : va_P D classes (ws ++ [] ++ []) H := by simpa using hP
  have hD' : va_D A (ws ++ [] ++ []) := by simpa using hD
  have hPc := w_subP hP'
  have hDc := w_subD hD'
  have hA : ∀ q, H.size ≤ q → A q := fun q h => F.2.2.2.2.2.2 q (Nat.le_trans hS.1 h)
  have hFc := w_subA hD' hA
  refine va_calli (va_runSN (As := As) (rest := rest) ⟨F.1, F.2.1, F.2.2.1, F.2.2.2.1, F.2.2.2.2.1⟩ (hM H.size) ⟨va_cnB n F.2.2.2.2.1 ?_ rfl rfl rfl hml (F.2.2.2.2.1 _ hin) hy hR, F.2.2.2.2.1 _ hsm, trivial⟩ ⟨PC.blind, g_hp F hPc hDc⟩ rfl hn hl.1 rfl (lv_room hcat) hd hcs) hS (fun q _ h => hFc q h) hFc (fun r u t H1 locs1 ht hvm hw hB hz1 hk1 hS1 => ?_)
  · intro w hw
    have hT : w ∈ TBL := by
      rcases List.mem_cons.mp hw with h | h
      · rw [h]; exact hcd
      · exact h
    exact ⟨hT, good_of_word (tbl_good hT)⟩
  · obtain rfl : r = x := hw
    rw [ht] at hB
    obtain ⟨hP1, hD1⟩ := w_frame hP' hD' hk1 hFc hB.1 hB.2
    exact kk H1 locs1 ls (by simpa using hP1) (by simpa using hD1) hS1 hl
end CALLS
