/-! THE LAW'S OWN STATIC METHODS: they call a method that returns or throws, and catch -/
def KX (A : Nat → Prop) (U : State) : Prop := KT A U ∧ ∀ i j, 1 ≤ i → i ≤ 3 → 1 ≤ j → j ≤ 3 → i ≠ j → va_Nc (exN i) (exN j) U
theorem KX.same {A : Nat → Prop} {s U : State} (hv : s.vm = U.vm) (hh : s.heap = U.heap) (h : KX A s) : KX A U := ⟨KT.same hv hh h.1, fun i j a b c d e => va_Nc.moved (by rw [hv]; exact Vm.Alike.refl U.vm) (h.2 i j a b c d e)⟩
theorem exN_cases (k : Nat) : exN k = exN 1 ∨ exN k = exN 2 ∨ exN k = exN 3 := by
  unfold exN
  split
  · exact Or.inl rfl
  · exact Or.inr (Or.inl rfl)
  · exact Or.inr (Or.inr rfl)
theorem KT.move {A B : Nat → Prop} {s U : State} {H : Heap} {locs : List Loc} (hW : s.WarmedH U.vm) (hU : U.heap = H) (hS : va_S A s.heap H locs) (hB : ∀ q, B q → A q) (h : KT A s) : KT B U := by
  refine ⟨⟨fun k => va_Nw.warmC hW (h.1.1 k), fun x hx => va_Nw.warmD hW (h.1.2 x hx)⟩, fun z hz => ?_, ?_, ?_⟩
  · obtain ⟨sa, h1⟩ := h.2.1 z hz
    exact ⟨sa, vk_R.warm hW h1⟩
  · rw [hU]; exact ((vx_Zq.moved hW.alike h.2.2.1).kept hS.2.1).narrow hB
  · rw [hU]; exact ((vx_Zq.moved hW.alike h.2.2.2).kept hS.2.1).narrow hB
theorem KX.move {A B : Nat → Prop} {s U : State} {H : Heap} {locs : List Loc} (hW : s.WarmedH U.vm) (hU : U.heap = H) (hS : va_S A s.heap H locs) (hB : ∀ q, B q → A q) (h : KX A s) : KX B U := ⟨h.1.move hW hU hS hB, fun i j a b c d e => va_Nc.moved hW.alike (h.2 i j a b c d e)⟩
theorem vx_Run.mono {p : Program} {l : Launch} {e : Env} {R : Room} {s : State} {m : MethodId} {args : Array Value} {below : List Frame} {meth : Method} {c : Code} {H : Heap} {locs : List Loc} {cells slots mc ms : Nat} {g : JFrame} {rest : List Value} {Qa Qb : State → Outcome → State → Prop} {X1 X2 : String → State → State → Prop} {free : Addr → Prop} (hQ : ∀ a b c, Qa a b c → Qb a b c) (hX : ∀ a b c, X1 a b c → X2 a b c) (h : vx_Run p l e R s m args below meth c H locs cells slots mc ms g rest Qa X1 free) : vx_Run p l e R s m args below meth c H locs cells slots mc ms g rest Qb X2 free := by
  intro T hT X
  rcases h T hT X with ⟨v, st₀, t, T', L, h0, X', hL, e1, e2, hq, st⟩ | ⟨q, st₀, t, T', L, E, ce, h0, X', hL, e1, e2, hx, hce, hcv, hcl, st⟩
  · exact Or.inl ⟨v, st₀, t, T', L, h0, X', hL, e1, e2, hQ _ _ _ hq, st⟩
  · exact Or.inr ⟨q, st₀, t, T', L, E, ce, h0, X', hL, e1, e2, hX _ _ _ hx, hce, hcv, hcl, st⟩
def PCw (D : va_G) (Y : Nat → ClassId) (wc : va_W) (vals : List Value) (sz : Nat) : Array Value → State → Prop := va_Pc vals (fun U => U.heap.size = sz ∧ va_P D classes wc U.heap ∧ KK D Y U ∧ va_D (fun _ => True) wc ∧ KX (va_A wc sz) U)
theorem PCw.blind {D : va_G} {Y : Nat → ClassId} {wc : va_W} {vals : List Value} {sz : Nat} : FrameBlind (PCw D Y wc vals sz) := fun a U g mk h => ⟨h.1, h.2.1, h.2.2.1, KK.same (s := U) (U := U.calling g mk a) rfl h.2.2.2.1, h.2.2.2.2.1, KX.same (s := U) (U := U.calling g mk a) rfl rfl h.2.2.2.2.2⟩
def CMw (l : Launch) (y : MethodName) (bytes : ByteArray) (maxL : Nat) (hh : List (Nat × Nat × Nat × Nat)) (fr lo : Nat) (D : va_G) (Y : Nat → ClassId) (wc w1 : va_W) (vals : List Value) (x : Int32) : Prop :=
  ∀ sz, Met l y (.codeWith y bytes maxL (some .int) hh :: TBL) { frames := fr, cells := 1, slots := 6, locals := lo } (PCw D Y wc vals sz) (QI D w1 x (va_A wc sz)) 1 6 (va_A wc sz)
theorem cm_ofw {l : Launch} {y : MethodName} {bytes : ByteArray} {maxL : Nat} {hh : List (Nat × Nat × Nat × Nat)} {fr lo : Nat} {D : va_G} {Y : Nat → ClassId} {wc w1 : va_W} {vals : List Value} {lv0 : List (Nat × Value)} {x : Int32} (hy : plainName y.cls = true) (hn : (lg_sl vals).length ≤ maxL) (h0 : lv_args 0 vals = lv0)
    (body : ∀ (p : Program) (e : Env) (s : State) (m : MethodId) (args : Array Value) (below : List Frame) (meth : Method) (c : Code) (A : Nat → Prop), Fx p s m args c D Y A bytes maxL y.cls → meth.sig.returnType = some .int → meth.locks = false → KX A s → c.exceptionTable.toList = tableOf hh → GW p l e { frames := fr, cells := 1, slots := 6, locals := lo } s m args below meth c D A maxL 0 0 (MQ below (QI D w1 x A) args s 1 6 A) wc 0 lv0 []) : CMw l y bytes maxL hh fr lo D Y wc w1 vals x := by
  intro sz
  have h9 : vx_Met l y (.codeWith y bytes maxL (some .int) hh :: TBL) { frames := fr, cells := 1, slots := 6, locals := lo } (PCw D Y wc vals sz) (QI D w1 x (va_A wc sz)) (fun _ _ _ => False) 1 6 (va_A wc sz) := by
    refine vx_ofWH (cc := bytes) (maxL := maxL) (ret := some .int) (hh := hh) hy rfl ?_
    intro p e s m args below meth c s₁ B hml hv
    obtain ⟨rfl, hsz, hP, hK, hD0, hT⟩ := hv
    have hts := atoms_spec (ws := .codeWith y bytes maxL (some .int) hh :: TBL) B.pre
    have hown : s.vm.findClass y.cls = some m.cls := findClass_of_methodNamed B.named
    have hct := vx_table (x := y) B (hts _ List.mem_cons_self)
    subst hsz
    have hD := hD0.self (sz := s.heap.size)
    have hA : ∀ q : Nat, s.heap.size ≤ q → va_A wc s.heap.size q := fun q h => Or.inr h
    have hl := lv_entry vals (n := maxL) hn
    rw [lg_entry_eq]
    rw [h0] at hl
    refine vx_ret ?_
    exact body p e s m vals.toArray below meth c (va_A wc s.heap.size) ⟨B.exec, B.bytes, hml, hown, fun w hw => hts w (List.mem_cons_of_mem _ hw), hK, hA⟩ B.returns B.notSynchronized hT hct s.heap [] _ hP hD va_S.rf hl
  intro p e ha hc hk s m args below hf happ hpre hK
  obtain ⟨n, o, h1, h2, h3, hQ⟩ := h9 p e ha hc hk s m args below hf happ hpre hK
  refine ⟨n, o, h1, h2, h3, ?_⟩
  rcases hQ with hQ | ⟨q, -, E, ce, L, hx, -⟩
  · exact hQ
  · exact hx.elim
def stv (b : Bool) (x : Int32) (r : List Value) : List Value := match b with
  | true => r
  | false => .int x :: r
section WRAP
variable {p : Program} {l : Launch} {e : Env} {R : Room} {s : State} {m : MethodId} {args : Array Value} {below : List Frame} {meth : Method} {c : Code} {D : va_G} {Y : Nat → ClassId} {A : Nat → Prop} {cc : ByteArray} {nL : Nat} {own : String} {cells slots : Nat} {Q : State → Prop} {ws ws1 wc w1 : va_W} {pc : Nat} {lv : List (Nat × Value)} {st rest : List Value}
variable {y : MethodName} {bytes : ByteArray} {maxL : Nat} {ret : Option FieldType} {fr lo index b q0 ci n : Nat} {As : List Value} {fs : List Value} {C : String} {T : u_T} {N : Nat} {x : Int32} {k : Nat}
/-- behind a throw: the handlers -/
def GX (p : Program) (l : Launch) (e : Env) (R : Room) (s : State) (m : MethodId) (args : Array Value) (below : List Frame) (meth : Method) (c : Code) (D : va_G) (A : Nat → Prop) (nL : Nat) (cells slots : Nat) (Q : State → Prop) (ws : va_W) (pc : Nat) (lv : List (Nat × Value)) (st : List Value) (k : Nat) : Prop :=
  ∀ (H : Heap) (locs : List Loc) (ls : Array Slot) (q9 : Addr) (ce : Cell), va_P D classes ws H → va_D A ws → va_S A s.heap H locs → lv_has ls nL lv → H[q9]? = some ce → ce.vm = .none → s.vm.findClass (exN k) = some ce.cls → vx_W p l e R s m args below meth c H locs cells slots Q (F0 m pc ls st) q9
theorem g_callT (bv : Bool) (F : Fx p s m args c D Y A cc nL own) (hT : KX A s) (pre post : va_W) (hM : CMt bv l y bytes maxL ret fr lo D Y wc w1 (.ref b :: As) k x) (hws : ws = pre ++ wc ++ post) (hw1 : pre ++ w1 ++ post = ws1) (hy : mOK y n) (hn : As.length = n) (hcl : y.cls = C) (hcd : Cond.code y bytes maxL ret ∈ TBL) (hml : Cond.methodLink own index y ∈ TBL) (him : Cond.instanceMethod y ∈ TBL) (hse : Cond.selects C y y ∈ TBL) (hin : Cond.initialized C ∈ TBL)
    (he : wc[q0]? = some (b, .inr (ci, fs))) (hc : classes[ci]? = some (C, T, N)) (hR : fr + 1 ≤ R.frames ∧ 8 + (maxL + 11) + lo ≤ R.locals) (hcs : cells + 1 ≤ R.cells ∧ slots + 6 ≤ R.slots) (hst : st = As.reverse ++ .ref b :: rest) (hcat : (rest.map fun v => v.category).sum ≤ 8) (hd : decode cc pc = .ok (.invokevirtual index, 3))
    (kx : k ≠ 0 → GX p l e R s m args below meth c D A nL (cells + 1) (slots + 6) Q ws1 pc lv rest k)
    (kk : k = 0 → GW p l e R s m args below meth c D A nL (cells + 1) (slots + 6) Q ws1 (pc + 3) lv (stv bv x rest)) : GW p l e R s m args below meth c D A nL cells slots Q ws pc lv st := by
  intro H locs ls hP hD hS hl
  subst hws hw1 hst
  have hPc := w_subP hP
  have hDc := w_subD hD
  have hA : ∀ q, H.size ≤ q → A q := fun q h => F.2.2.2.2.2.2 q (Nat.le_trans hS.1 h)
  have hFc := w_subA hD hA
  have hgood : GoodIn TBL (wsV own index C y (.code y bytes maxL ret :: TBL)) := by
    intro w hw
    have hT : w ∈ TBL := by
      rcases List.mem_append.mp hw with h | h
      · simp only [List.mem_cons, List.not_mem_nil, or_false] at h
        rcases h with rfl | rfl | rfl | rfl
        · exact hml
        · exact him
        · exact hse
        · exact hin
      · rcases List.mem_cons.mp h with h | h
        · rw [h]; exact hcd
        · exact h
    exact ⟨hT, good_of_word (tbl_good hT)⟩
  have hrun := vx_runV (e := e) (below := below) (meth := meth) (As := As) (rest := rest) (locs := locs) (cells := cells) (slots := slots) (g := F0 m pc ls (As.reverse ++ .ref b :: rest)) ⟨F.1, F.2.1, F.2.2.1, F.2.2.2.1, F.2.2.2.2.1⟩ (hM H.size) (cwV (C := C) n F.2.2.2.2.1 hgood rfl rfl rfl ⟨hcl, hy⟩ hR) ⟨PCt.blind, va_recv F.2.2.2.2.2.1.1 hPc hc he, fun U hU hW => ⟨rfl, by rw [hU], by rw [hU]; exact hPc, KK.warm hW F.2.2.2.2.2.1, hDc, hT.1.move hW hU hS hFc⟩⟩ rfl hn hl.1 rfl (lv_room hcat) hd hcs
  have hxm : ∀ E a t, XCt D w1 (va_A wc H.size) k E a t → vx_X (fun (_ : Unit) => k ≠ 0) (fun E _ t => E = exN k ∧ va_P D classes w1 t.heap ∧ va_D (va_A wc H.size) w1) (va_A wc H.size) E a t := fun E a t h => ⟨(), h.1, ⟨h.2.1, h.2.2.1, h.2.2.2.1⟩, h.2.2.2.2⟩
  have kx' : ∀ (E : String) (ce : Cell) (q9 : Addr) (u : Unit) (t : State) (H1 : Heap) (locs1 : List Loc), t.heap = H1 → s.vm.Alike t.vm → k ≠ 0 → (E = exN k ∧ va_P D classes w1 t.heap ∧ va_D (va_A wc H.size) w1) → H.size ≤ H1.size → (∀ q : Nat, q < H.size → ¬ va_A wc H.size q → H1[q]? = H[q]?) → va_S A s.heap H1 locs1 → H1[q9]? = some ce → ce.vm = .none → s.vm.findClass E = some ce.cls → vx_W p l e R s m args below meth c H1 locs1 (cells + 1) (slots + 6) Q (F0 m pc ls rest) q9 := by
    intro E ce q9 u t H1 locs1 ht hvm hk hB hz hk1 hS1 hce hcv hcl9
    rw [ht] at hB
    obtain ⟨hP1, hD1⟩ := w_frame hP hD hk1 hFc hB.2.1 hB.2.2
    exact kx hk H1 locs1 ls q9 ce hP1 hD1 hS1 hl hce hcv (by rw [← hB.1]; exact hcl9)
  cases bv with
  | false =>
    refine vx_calli (a := #[]) (post := fun (r' : Int32) (_ : Unit) => k = 0 ∧ r' = x) (B := fun _ t => va_P D classes w1 t.heap ∧ va_D (va_A wc H.size) w1) (vx_Run.mono (fun a o t h => ?_) hxm hrun) hS (fun q _ h => hFc q h) hFc (fun q _ h => hFc q h) kx' (fun r u t H1 locs1 ht hvm hw hB hz1 hk1 hS1 => ?_)
    · obtain ⟨h0, ⟨r, u, e1, e2, e3⟩, e4⟩ := h
      exact ⟨⟨r, u, e1, ⟨h0, e2⟩, e3⟩, e4⟩
    · obtain ⟨hk0, rfl⟩ := hw
      rw [ht] at hB
      obtain ⟨hP1, hD1⟩ := w_frame hP hD hk1 hFc hB.1 hB.2
      exact kk hk0 H1 locs1 ls hP1 hD1 hS1 hl
  | true =>
    refine vx_callv (a := #[]) (post := fun (_ : Unit) => k = 0) (B := fun _ t => va_P D classes w1 t.heap ∧ va_D (va_A wc H.size) w1) (vx_Run.mono (fun a o t h => ?_) hxm hrun) hS (fun q _ h => hFc q h) hFc (fun q _ h => hFc q h) kx' (fun u t H1 locs1 ht hvm hw hB hz1 hk1 hS1 => ?_)
    · obtain ⟨h0, ⟨u, e1, e2, e3⟩, e4⟩ := h
      exact ⟨⟨u, e1, h0, e3⟩, e4⟩
    · rw [ht] at hB
      obtain ⟨hP1, hD1⟩ := w_frame hP hD hk1 hFc hB.1 hB.2
      exact kk hw H1 locs1 ls hP1 hD1 hS1 hl
/-- the handler that catches: those before it name other classes -/
theorem g_catch (F : Fx p s m args c D Y A cc nL own) (hT : KX A s) {hh : List (Nat × Nat × Nat × Nat)} (hct : c.exceptionTable.toList = tableOf hh) (pre : List (Nat × Nat × Nat × Nat)) (x : Nat × Nat × Nat × Nat) (suf : List (Nat × Nat × Nat × Nat)) (hsplit : hh = pre ++ x :: suf) (hpass : ∀ z ∈ pre, ∃ j, 1 ≤ j ∧ j ≤ 3 ∧ j ≠ k ∧ z.2.2.2 ≠ 0 ∧ Cond.classLink own z.2.2.2 (exN j) ∈ TBL) (hk1 : 1 ≤ k ∧ k ≤ 3) (hx : covers ⟨x.1, x.2.1, x.2.2.1, x.2.2.2⟩ pc = true) (h0 : x.2.2.2 ≠ 0) (hlink : Cond.classLink own x.2.2.2 (exN k) ∈ TBL)
    (kk : ∀ q9, GW p l e R s m args below meth c D A nL cells slots Q ws x.2.2.1 lv [.ref q9]) : GX p l e R s m args below meth c D A nL cells slots Q ws pc lv st k := by
  intro H locs ls q9 ce hP hD hS hl hce hcv hcl
  refine vx_catch (E := exN k) (name := exN k) F.2.2.2.1 (tableOf pre) ⟨x.1, x.2.1, x.2.2.1, x.2.2.2⟩ (tableOf suf) (by rw [hct, hsplit]; simp [tableOf]) (fun z hz => ?_) hx h0 (F.2.2.2.2.1 _ hlink) (va_Nw.use rfl (hT.1.1.1 k)) hce hcv hcl (kk q9 H locs ls hP hD hS hl)
  obtain ⟨z', hz', rfl⟩ := List.mem_map.mp hz
  obtain ⟨j, j1, j2, j3, j4, j5⟩ := hpass z' hz'
  exact Or.inr ⟨j4, exN j, F.2.2.2.2.1 _ j5, hT.2 k j hk1.1 hk1.2 j1 j2 (Ne.symm j3)⟩
theorem g_lconst (F : Fx p s m args c D Y A cc nL own) {f : Fin 2} {v : Int64} (hd : decode cc pc = .ok (.lconst f, 1)) (hv : Int64.ofNat (f : Nat) = v) (k : GW p l e R s m args below meth c D A nL cells slots Q ws (pc + 1) lv (.long v :: st)) : GW p l e R s m args below meth c D A nL cells slots Q ws pc lv st := fun H locs ls hP hD hS hl => lv_lconst F.1 F.2.1 hd hv (k H locs ls hP hD hS hl)
theorem g_last (F : Fx p s m args c D Y A cc nL own) {a : Nat} (q0 : Nat) {n : Nat} {f : Nat → Int64} (ha : ws[q0]? = some (a, .inl (Y 2, n, .inr (.inl f)))) {i : Int32} {x : Int64} (hin : vp_in i n) (hd : decode cc pc = .ok (.lastore, 1)) {ws' : va_W} (hw : ws.set q0 (a, .inl (Y 2, n, .inr (.inl (vp_updL f i.toNatClampNeg x)))) = ws') (kk : GW p l e R s m args below meth c D A nL cells slots Q ws' (pc + 1) lv st) : GW p l e R s m args below meth c D A nL cells slots Q ws pc lv (.long x :: .int i :: .ref a :: st) := fun H locs ls hP hD hS hl => va_last F.1 F.2.1 F.2.2.2.2.2.1.1 hP hD hS q0 2 ha rfl hin hd (fun H1 locs1 hP1 hD1 hS1 => kk H1 locs1 ls (hw ▸ hP1) (hw ▸ hD1) hS1 hl)
theorem g_lald (F : Fx p s m args c D Y A cc nL own) {a : Nat} (q0 : Nat) {n : Nat} {f : Nat → Int64} (ha : ws[q0]? = some (a, .inl (Y 2, n, .inr (.inl f)))) {i : Int32} (hin : vp_in i n) (hd : decode cc pc = .ok (.laload, 1)) (kk : GW p l e R s m args below meth c D A nL cells slots Q ws (pc + 1) lv (.long (f i.toNatClampNeg) :: st)) : GW p l e R s m args below meth c D A nL cells slots Q ws pc lv (.int i :: .ref a :: st) := fun H locs ls hP hD hS hl => va_lald F.1 F.2.1 F.2.2.2.2.2.1.1 hP q0 2 ha rfl hin hd (kk H locs ls hP hD hS hl)
theorem g_lcmp (F : Fx p s m args c D Y A cc nL own) {x y : Int64} (hd : decode cc pc = .ok (.lcmp, 1)) (k : GW p l e R s m args below meth c D A nL cells slots Q ws (pc + 1) lv (.int (lg_cmp x y) :: st)) : GW p l e R s m args below meth c D A nL cells slots Q ws pc lv (.long y :: .long x :: st) := fun H locs ls hP hD hS hl => W.lcmp F.1 F.2.1 hd (k H locs ls hP hD hS hl)
/-- the call of such a static method -/
theorem g_callW {hh : List (Nat × Nat × Nat × Nat)} (F : Fx p s m args c D Y A cc nL own) (hT : KX A s) (pre post : va_W) (hM : CMw l y bytes maxL hh fr lo D Y wc w1 As x) (hws : ws = pre ++ wc ++ post) (hw1 : pre ++ w1 ++ post = ws1) (hy : mOK y n) (hn : As.length = n) (hcd : Cond.codeWith y bytes maxL (some .int) hh ∈ TBL) (hml : Cond.methodLink own index y ∈ TBL) (hsm : Cond.static y ∈ TBL) (hin : Cond.initialized y.cls ∈ TBL)
    (hR : fr + 1 ≤ R.frames ∧ 8 + (maxL + 11) + lo ≤ R.locals) (hcs : cells + 1 ≤ R.cells ∧ slots + 6 ≤ R.slots) (hst : st = As.reverse ++ rest) (hcat : (rest.map fun v => v.category).sum ≤ 8) (hd : decode cc pc = .ok (.invokestatic index, 3))
    (kk : GW p l e R s m args below meth c D A nL (cells + 1) (slots + 6) Q ws1 (pc + 3) lv (.int x :: rest)) : GW p l e R s m args below meth c D A nL cells slots Q ws pc lv st := by
  intro H locs ls hP hD hS hl
  subst hws hw1 hst
  have hPc := w_subP hP
  have hDc := w_subD hD
  have hA : ∀ q, H.size ≤ q → A q := fun q h => F.2.2.2.2.2.2 q (Nat.le_trans hS.1 h)
  have hFc := w_subA hD hA
  refine va_calli (vx_runSW (hh := hh) (As := As) (rest := rest) ⟨F.1, F.2.1, F.2.2.1, F.2.2.2.1, F.2.2.2.2.1⟩ (hM H.size) (vx_cwSW n F.2.2.2.2.1 ?_ rfl rfl rfl hy hR) ⟨PCw.blind, fun U hU hW => ⟨rfl, by rw [hU], by rw [hU]; exact hPc, KK.warm hW F.2.2.2.2.2.1, hDc, hT.move hW hU hS hFc⟩⟩ rfl hn hl.1 rfl (lv_room hcat) hd hcs) hS (fun q _ h => hFc q h) hFc (fun r u t H1 locs1 ht hvm hw hB hz1 hk1 hS1 => ?_)
  · intro w hw
    have hT : w ∈ TBL := by
      rcases List.mem_append.mp hw with h | h
      · simp only [List.mem_cons, List.not_mem_nil, or_false] at h
        rcases h with rfl | rfl | rfl
        · exact hml
        · exact hsm
        · exact hin
      · rcases List.mem_cons.mp h with h | h
        · rw [h]; exact hcd
        · exact h
    exact ⟨hT, good_of_word (tbl_good hT)⟩
  · obtain rfl : r = x := hw
    rw [ht] at hB
    obtain ⟨hP1, hD1⟩ := w_frame hP hD hk1 hFc hB.1 hB.2
    exact kk H1 locs1 ls hP1 hD1 hS1 hl
end WRAP
