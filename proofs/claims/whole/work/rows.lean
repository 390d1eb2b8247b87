section
/-! ===== BEGIN words of one list among another's, by their places ===== -/
theorem goodIn_r {big : List Cond} (ws : List Cond) (ps : List Nat) (hp : ws = ps.filterMap (fun i => big[i]?)) (h : ws.all goodWord = true) : GoodIn big ws := by
  intro w hw
  have h1 := List.all_eq_true.mp h w hw
  rw [hp] at hw
  obtain ⟨i, -, hi⟩ := List.mem_filterMap.mp hw
  have hm : w ∈ big := by first | exact List.mem_of_getElem? hi | exact List.getElem?_mem hi
  exact ⟨hm, good_of_word h1⟩
theorem goodIn_app {big a b : List Cond} (ha : GoodIn big a) (hb : GoodIn big b) : GoodIn big (a ++ b) := fun w h => (List.mem_append.mp h).elim (ha w) (hb w)
theorem goodIn_ca {big a b : List Cond} {c : Cond} (ha : GoodIn big (c :: a)) (hb : GoodIn big b) : GoodIn big (c :: (a ++ b)) := fun w h => (List.mem_cons.mp h).elim (fun e => ha w (List.mem_cons.mpr (Or.inl e))) (fun h => (List.mem_append.mp h).elim (fun h => ha w (List.mem_cons.mpr (Or.inr h))) (hb w))
theorem goodIn_sub {big ws : List Cond} (hm : ∀ w ∈ ws, w ∈ big) (h : ws.all goodWord = true) : GoodIn big ws := fun w hw => ⟨hm w hw, good_of_word (List.all_eq_true.mp h w hw)⟩
/-! ===== END ===== -/

/-! ===== BEGIN exceptions that leave a method, and their catching by the caller (launches without stack traces) ===== -/
section VXA
/-! The laws vx_back, vx_callV, vx_callS, vx_callSW, vx_throw0, vx_throwS follow proofs of the library, with one case more: JvmDerived/Free/Laws.lean (Back.of_free), Shelf42/LK1.lean (callV, callS), Shelf/KitTraced.lean (throwNew0V, throwNewS). -/
/-- where a method has thrown q: the class by its name, the cell, what was written, the world -/
def vx_T (XC : String → State → State → Prop) (st : State) (q : Addr) (t : State) (mc ms : Nat) (free : Addr → Prop) : Prop :=
  ∃ (E : String) (ce : Cell) (L : List Loc), XC E st t ∧ t.heap[q]? = some ce ∧ ce.vm = .none ∧ st.vm.findClass E = some ce.cls ∧ st.WarmedH t.vm ∧ st.sameButNew ({ t with vm := st.vm } : State) L mc ms ∧ ∀ z ∈ L, free z.base
def vx_Q (Qc : Array Value → State → Outcome → State → Prop) (XC : String → State → State → Prop) (mc ms : Nat) (free : Addr → Prop) : Array Value → State → Outcome → State → Prop := fun a st o t =>
  (Qc a st o t ∧ ∃ L, FrameEnd st o t L mc ms ∧ ∀ q ∈ L, free q.base) ∨ ∃ q, o = .threw q ∧ vx_T XC st q t mc ms free
/-- a callee that returns or throws -/
def vx_Met (l : Launch) (y : MethodName) (ws : List Cond) (rm : Room) (Pc : Array Value → State → Prop) (Qc : Array Value → State → Outcome → State → Prop) (XC : String → State → State → Prop) (mc ms : Nat) (free : Addr → Prop) : Prop :=
  MetFree l y (headSpec ws rm) Pc (fun _ _ _ _ _ => True) (vx_Q Qc XC mc ms free)
def vx_Post (XC : String → State → State → Prop) (mc ms : Nat) (free : Addr → Prop) : Pt → Array Value → Addr → Pt → Prop := fun A a q B =>
  ∃ (g : JFrame) (mk : MethodId) (t : State) (L : List Loc) (E : String) (ce : Cell), B.U.heap = t.heap ∧ B.U.vm = t.vm ∧ XC E (A.U.calling g mk a) t ∧ t.heap[q]? = some ce ∧ ce.vm = .none ∧ A.U.vm.findClass E = some ce.cls ∧ B.locs = A.locs ++ L ∧ (∀ z ∈ L, free z.base) ∧ B.cells = A.cells + mc ∧ B.slots = A.slots + ms
def vx_Back (l : Launch) (R : Room) (p : Program) (e : Env) (below : List Frame) (s : State) (sargs : Array Value) (y : MethodName) (len W9 : Nat)
    (Pre : Pt → Array Value → Prop) (Post : Pt → Array Value → Option Value → Pt → Prop) (PostX : Pt → Array Value → Addr → Pt → Prop) : Prop :=
  ∀ (m : MethodId) (meth : Method) (c : Code) (A : Pt) (g : JFrame) (ig : Instr) (mk : MethodId) (a : Array Value),
    Stand p l e R s m sargs below meth c A.U A.locs A.cells A.slots → g.method = m → g.locals.size = c.maxLocals → decode c.code g.pc = .ok (ig, len) →
    2 * g.monitorRoom + (g.stack.map fun v => v.category).sum ≤ W9 → A.U.methodNamed? y = some mk → Pre A a →
    (∃ (v : Option Value) (B : Pt), Stand p l e R s m sargs below meth c B.U B.locs B.cells B.slots ∧ Post A a v B ∧
      Steps p.tables e below (doInvoke e (A.U.setTop g) [] mk a).1 (B.U.setTop { g with pc := g.pc + len, stack := v.toList ++ g.stack })) ∨
    (∃ (q : Addr) (B : Pt), Stand p l e R s m sargs below meth c B.U B.locs B.cells B.slots ∧ PostX A a q B ∧
      Steps p.tables e below (doInvoke e (A.U.setTop g) [] mk a).1 ((B.U.setTop g).pushFrame (.throwing q)))
section Payer
variable {l : Launch} {R : Room} {p : Program} {e : Env} {below : List Frame} {s : State} {sargs : Array Value} {y : MethodName} {len W9 : Nat}
theorem vx_back {ws : List Cond} {rm : Room} {Pc : Array Value → State → Prop} {Qc : Array Value → State → Outcome → State → Prop} {XC : String → State → State → Prop} {mc ms : Nat} {free : Addr → Prop} {bytes : ByteArray} {maxL : Nat} {ret : Option FieldType}
    (hM : vx_Met l y ws rm Pc Qc XC mc ms free) (hblind : FrameBlind Pc) (hrc : rm.cells = mc) (hrs : rm.slots = ms)
    (hframes : rm.frames + 1 ≤ R.frames) (hlocals : W9 + (maxL + 11) + rm.locals ≤ R.locals)
    (hws : ∀ w ∈ ws, ∀ a' U, s.WarmedH U.vm → w.before a' U = true) (hcode : Cond.code y bytes maxL ret ∈ ws) (hinit : ∀ a' U, s.WarmedH U.vm → (Cond.initialized y.cls).before a' U = true) :
    vx_Back l R p e below s sargs y len W9 (PreOf R mc ms Pc) (PostOf Qc mc ms free) (vx_Post XC mc ms free) := by
  intro m meth c A g ig mk a X hg hsize hdg hW hn hp
  have h1 : (headSpec ws rm).pre.before a A.U = true := atoms_intro fun w hw => hws w hw _ _ X.warmed
  have h2 : (Cond.code y bytes maxL ret).before a A.U = true := hws _ hcode _ _ X.warmed
  have h3 : (Cond.initialized y.cls).before a A.U = true := hinit _ _ X.warmed
  have h4 : A.cells + (headSpec ws rm).room.cells ≤ R.cells := by rw [show (headSpec ws rm).room.cells = mc from hrc]; exact hp.1
  have h5 : A.slots + (headSpec ws rm).room.slots ≤ R.slots := by rw [show (headSpec ws rm).room.slots = ms from hrs]; exact hp.2.1
  have hPc : Pc a (A.U.calling g mk a) := hblind _ _ _ _ hp.2.2
  obtain ⟨U, Ls, c0, s0⟩ := A
  dsimp only [Pt.U, Pt.locs, Pt.cells, Pt.slots] at h1 h2 h3 h4 h5 X hn hPc ⊢
  obtain ⟨methY, cY, hmY, hcY, -, hlY, -, -, -, -⟩ := Cond.code_spec hn h2
  obtain ⟨kY, hkY, -⟩ := className_of_methodNamed hn
  have hinitY : kY.init = .initialized := Cond.initialized_spec (findClass_of_methodNamed hn) hkY h3
  have h : At U g.method c below := by rw [hg]; exact X.here
  have hlocals9 : W9 + (maxL + 11) + (headSpec ws rm).room.locals ≤ R.locals := hlocals
  have happ : (headSpec ws rm).appliesLoose y e.platform (U.calling g mk a) = true :=
    Spec.appliesLoose_calling (g := g) h hdg hn hkY hinitY
      (X.room_calling (g := g) (R' := (headSpec ws rm).room) hsize hmY hcY hframes (by rw [hlY]; omega) h4 h5) h1
  obtain ⟨mid, hmid⟩ := h.above
  have hfr : (U.setTop g).frames = (.java g :: mid) ++ below := by rw [State.frames_setTop' g h.top, hmid]; rfl
  obtain ⟨o, s₂, hsteps, -, hend, hq⟩ := Steps.callFree hM p X.admits X.cas X.clock (acts := []) hfr happ hPc trivial
  have hq' : vx_Q Qc XC mc ms free a (U.calling g mk a) o s₂ := hq
  rw [State.frames_setTop' g h.top] at hend
  obtain ⟨g₀, hg0⟩ := Option.isSome_iff_exists.mp h.top
  obtain ⟨r, hr⟩ := State.topJava?_eq_some.mp hg0
  have hr' : (({ U with heap := s₂.heap, slotsUsed := s₂.slotsUsed } : State).setVm s₂.vm).frames = .java g₀ :: r := hr
  rcases hq' with ⟨hqc, L, hfe, hL⟩ | ⟨q, rfl, E, ce, L, hx, hce, hcv, hcl, hW₂, hsm, hL⟩
  · obtain ⟨⟨v, rfl⟩, hW₂, e2, q2, q3, q4, q5, q6⟩ := id hfe
    have e3 : s₂ = ({ (U.calling g mk a).setFrames s₂.frames with heap := s₂.heap, slotsUsed := s₂.slotsUsed } : State).setVm s₂.vm := by
      have : s₂ = ({ s₂ with vm := (U.calling g mk a).vm } : State).setVm s₂.vm := rfl
      rw [e2] at this
      exact this
    obtain ⟨c₂, i₂, len₂, hc₂, hd₂, hf₂⟩ := hend
    have hW' : U.WarmedH s₂.vm := hW₂
    have hcc : c₂ = c := by
      have h1 : s₂.code? g.method = U.code? g.method := by
        rw [State.code?_eq, State.code?_eq, hW'.alike.method?]
      exact Option.some.inj (hc₂.symm.trans (h1.trans h.code))
    subst hcc
    have hlen : len₂ = len := by rw [hdg] at hd₂; cases hd₂; rfl
    subst hlen
    have hs₂ : s₂ = (({ U with heap := s₂.heap, slotsUsed := s₂.slotsUsed } : State).setVm s₂.vm).setTop { g with pc := g.pc + len₂, stack := v.toList ++ g.stack } := by
      refine e3.trans ?_
      rw [hf₂, State.calling_eq h.top, State.setFrames_setFrames, State.setTop_of_frames _ hr', hr]
      rfl
    have hsame : U.sameButNew ({ U with heap := s₂.heap, slotsUsed := s₂.slotsUsed } : State) L mc ms := by
      refine ⟨?_, q2, q3, q4, q5, q6⟩
      obtain ⟨t, ht, -⟩ := State.frames_cons hr
      show ({ U with heap := s₂.heap, slotsUsed := s₂.slotsUsed } : State) = { U.setFrames U.frames with heap := s₂.heap, slotsUsed := s₂.slotsUsed }
      rw [State.setFrames_self ht]
    subst hg
    refine Or.inl ⟨v, ⟨(({ U with heap := s₂.heap, slotsUsed := s₂.slotsUsed } : State).setVm s₂.vm), Ls ++ L, c0 + mc, s0 + ms⟩,
      ⟨X.admits, X.cas, X.clock, X.frames, X.room, X.hears, X.method, X.code, (X.here.setHeapUsed s₂.heap s₂.slotsUsed).setVm hW'.alike, X.tail, State.WarmedH.trans X.warmed hW', X.limits, X.bytes, X.same.trans (hsame.setVm s.vm)⟩,
      ⟨g, mk, s₂, L, rfl, rfl, hqc, rfl, hL, rfl, rfl⟩, ?_⟩
    show Steps p.tables e below _ ((({ U with heap := s₂.heap, slotsUsed := s₂.slotsUsed } : State).setVm s₂.vm).setTop { g with pc := g.pc + len₂, stack := v.toList ++ g.stack })
    rw [← hs₂]
    exact hsteps
  · obtain ⟨e2, q2, q3, q4, q5, q6⟩ := id hsm
    have e3 : s₂ = ({ (U.calling g mk a).setFrames s₂.frames with heap := s₂.heap, slotsUsed := s₂.slotsUsed } : State).setVm s₂.vm := by
      have : s₂ = ({ s₂ with vm := (U.calling g mk a).vm } : State).setVm s₂.vm := rfl
      rw [e2] at this
      exact this
    have hf₂ : s₂.frames = .throwing q :: .java g :: U.frames.tail := hend
    have hW' : U.WarmedH s₂.vm := hW₂
    have hs₂ : s₂ = ((({ U with heap := s₂.heap, slotsUsed := s₂.slotsUsed } : State).setVm s₂.vm).setTop g).pushFrame (.throwing q) := by
      refine e3.trans ?_
      rw [hf₂, State.calling_eq h.top, State.setFrames_setFrames, State.pushFrame, State.frames_setTop _ hr', State.setTop_of_frames _ hr', State.setFrames_setFrames, hr]
      rfl
    have hsame : U.sameButNew ({ U with heap := s₂.heap, slotsUsed := s₂.slotsUsed } : State) L mc ms := by
      refine ⟨?_, q2, q3, q4, q5, q6⟩
      obtain ⟨t, ht, -⟩ := State.frames_cons hr
      show ({ U with heap := s₂.heap, slotsUsed := s₂.slotsUsed } : State) = { U.setFrames U.frames with heap := s₂.heap, slotsUsed := s₂.slotsUsed }
      rw [State.setFrames_self ht]
    subst hg
    refine Or.inr ⟨q, ⟨(({ U with heap := s₂.heap, slotsUsed := s₂.slotsUsed } : State).setVm s₂.vm), Ls ++ L, c0 + mc, s0 + ms⟩,
      ⟨X.admits, X.cas, X.clock, X.frames, X.room, X.hears, X.method, X.code, (X.here.setHeapUsed s₂.heap s₂.slotsUsed).setVm hW'.alike, X.tail, State.WarmedH.trans X.warmed hW', X.limits, X.bytes, X.same.trans (hsame.setVm s.vm)⟩,
      ⟨g, mk, s₂, L, E, ce, rfl, rfl, hx, hce, hcv, hcl, rfl, hL, rfl, rfl⟩, ?_⟩
    show Steps p.tables e below _ (((({ U with heap := s₂.heap, slotsUsed := s₂.slotsUsed } : State).setVm s₂.vm).setTop g).pushFrame (.throwing q))
    rw [← hs₂]
    exact hsteps
end Payer
section Calls
variable {p : Program} {l : Launch} {e : Env} {R : Room} {s : State} {m : MethodId} {args : Array Value} {below : List Frame} {meth : Method} {c : Code} {T : State} {locs : List Loc} {cells slots : Nat}
theorem vx_callV (X : Stand p l e R s m args below meth c T locs cells slots) (hexec : p.tables.exec = Jvm.exec) {own C : String} {index : Nat} {y : MethodName} {bytes : ByteArray} {maxL : Nat} {ret : Option FieldType}
    (hown : s.vm.findClass own = some m.cls) (hlink : (Cond.methodLink own index y).before args s = true) (hinst : (Cond.instanceMethod y).before args s = true) (hsel : (Cond.selects C y y).before args s = true)
    (hcode : (Cond.code y bytes maxL ret).before args s = true) (hy : y.cls ≠ "java/lang/invoke/MethodHandle" ∧ y.cls ≠ "java/lang/invoke/VarHandle")
    {W9 : Nat} {Pre : Pt → Array Value → Prop} {Post : Pt → Array Value → Option Value → Pt → Prop} {PostX : Pt → Array Value → Addr → Pt → Prop} (hK : vx_Back l R p e below s args y 3 W9 Pre Post PostX)
    {b : Addr} {cellB : Cell} (hcell : T.heap[b]? = some cellB) (hobj : cellB.vm.isStatics = false) (hcls : s.vm.findClass C = some cellB.cls)
    {g : JFrame} (hg : g.method = m) (hsize : g.locals.size = c.maxLocals) {argsL rest : List Value} (hlen : ∀ sig, parseMethodDescriptor y.desc = some sig → argsL.length = sig.parameters.length)
    (hstack : g.stack = argsL.reverse ++ .ref b :: rest) (hW : 2 * g.monitorRoom + (rest.map fun v => v.category).sum ≤ W9) (hdg : decode c.code g.pc = .ok (.invokevirtual index, 3))
    (hpre : ∀ vm₁, s.WarmedH vm₁ → Pre ⟨T.setVm vm₁, locs, cells, slots⟩ (Value.ref b :: argsL).toArray) :
    (∃ (v : Option Value) (vm₁ : Vm) (B : Pt), s.WarmedH vm₁ ∧ Stand p l e R s m args below meth c B.U B.locs B.cells B.slots ∧ Post ⟨T.setVm vm₁, locs, cells, slots⟩ (Value.ref b :: argsL).toArray v B ∧
      ∀ target, Steps p.tables e below (B.U.setTop { g with pc := g.pc + 3, stack := v.toList ++ rest }) target → Steps p.tables e below (T.setTop g) target) ∨
    (∃ (q : Addr) (vm₁ : Vm) (B : Pt), s.WarmedH vm₁ ∧ Stand p l e R s m args below meth c B.U B.locs B.cells B.slots ∧ PostX ⟨T.setVm vm₁, locs, cells, slots⟩ (Value.ref b :: argsL).toArray q B ∧
      Steps p.tables e below (T.setTop g) ((B.U.setTop { g with stack := rest }).pushFrame (.throwing q))) := by
  obtain ⟨mk, methM, hnamed, hmethM, hstM, habM⟩ := Cond.instanceMethod_spec hinst
  obtain ⟨methM', cM, hmethM', -, -, -, -, -, -, hsigM⟩ := Cond.code_spec hnamed hcode
  cases hmethM.symm.trans hmethM'
  obtain ⟨c2, r2, m2, q1, q2, q3, q4, kP, hkP, hkPi⟩ := Cond.selects_spec hsel
  cases hcls.symm.trans q1
  cases (State.methodFound?_of_named hnamed hy).symm.trans q2
  cases hnamed.symm.trans q3
  have hselP : selectMethod e.platform s.vm cellB.cls mk = .method mk := by rw [Launch.admits_selectMethod X.admits]; exact q4
  obtain ⟨vm₁, X₁, hstep₁⟩ := X.invokevirtual hexec hown hlink hnamed hmethM hstM hkP hkPi hy (a := b) (cell := cellB) hcell
    (fun z h => by rw [h] at hobj; cases hobj) hselP hmethM habM hkP hkPi (g := g) hg (argsL := argsL) (rest := rest) (hlen _ hsigM) hstack hdg
  rcases hK m meth c ⟨T.setVm vm₁, locs, cells, slots⟩ { g with stack := rest } (.invokevirtual index) mk (Value.ref b :: argsL).toArray X₁ hg hsize hdg hW (X₁.named hnamed) (hpre vm₁ X₁.warmed) with ⟨v, B, X', hpost, hsteps⟩ | ⟨q, B, X', hpost, hsteps⟩
  · exact Or.inl ⟨v, vm₁, B, X₁.warmed, X', hpost, fun target h => hstep₁ _ fun acts => by rw [doInvoke_state]; exact hsteps.trans h⟩
  · exact Or.inr ⟨q, vm₁, B, X₁.warmed, X', hpost, hstep₁ _ fun acts => by rw [doInvoke_state]; exact hsteps⟩
theorem vx_callS (X : Stand p l e R s m args below meth c T locs cells slots) (hexec : p.tables.exec = Jvm.exec) {own : String} {index : Nat} {y : MethodName} {bytes : ByteArray} {maxL : Nat} {ret : Option FieldType}
    (hown : s.vm.findClass own = some m.cls) (hlink : (Cond.methodLink own index y).before args s = true) (hstat : (Cond.static y).before args s = true) (hinit : (Cond.initialized y.cls).before args s = true)
    (hcode : (Cond.code y bytes maxL ret).before args s = true) (hy : y.cls ≠ "java/lang/invoke/MethodHandle" ∧ y.cls ≠ "java/lang/invoke/VarHandle")
    {W9 : Nat} {Pre : Pt → Array Value → Prop} {Post : Pt → Array Value → Option Value → Pt → Prop} {PostX : Pt → Array Value → Addr → Pt → Prop} (hK : vx_Back l R p e below s args y 3 W9 Pre Post PostX)
    {g : JFrame} (hg : g.method = m) (hsize : g.locals.size = c.maxLocals) {argsL rest : List Value} (hlen : ∀ sig, parseMethodDescriptor y.desc = some sig → argsL.length = sig.parameters.length)
    (hstack : g.stack = argsL.reverse ++ rest) (hW : 2 * g.monitorRoom + (rest.map fun v => v.category).sum ≤ W9) (hdg : decode c.code g.pc = .ok (.invokestatic index, 3))
    (hpre : ∀ vm₁, s.WarmedH vm₁ → Pre ⟨T.setVm vm₁, locs, cells, slots⟩ argsL.toArray) :
    (∃ (v : Option Value) (vm₁ : Vm) (B : Pt), s.WarmedH vm₁ ∧ Stand p l e R s m args below meth c B.U B.locs B.cells B.slots ∧ Post ⟨T.setVm vm₁, locs, cells, slots⟩ argsL.toArray v B ∧
      ∀ target, Steps p.tables e below (B.U.setTop { g with pc := g.pc + 3, stack := v.toList ++ rest }) target → Steps p.tables e below (T.setTop g) target) ∨
    (∃ (q : Addr) (vm₁ : Vm) (B : Pt), s.WarmedH vm₁ ∧ Stand p l e R s m args below meth c B.U B.locs B.cells B.slots ∧ PostX ⟨T.setVm vm₁, locs, cells, slots⟩ argsL.toArray q B ∧
      Steps p.tables e below (T.setTop g) ((B.U.setTop { g with stack := rest }).pushFrame (.throwing q))) := by
  obtain ⟨mk, hnamed⟩ := Cond.code_named hcode
  obtain ⟨methM, cM, hmethM, -, -, -, -, -, -, hsigM⟩ := Cond.code_spec hnamed hcode
  have hstatic : methM.isStatic = true := Cond.static_spec hnamed hmethM hstat
  obtain ⟨kP, hkP, -⟩ := className_of_methodNamed hnamed
  have hinitP : kP.init = .initialized := Cond.initialized_spec (findClass_of_methodNamed hnamed) hkP hinit
  obtain ⟨vm₁, X₁, hstep₁⟩ := X.invokestatic hexec hown hlink hnamed hmethM hstatic hkP hinitP hy (g := g) hg (argsL := argsL) (rest := rest) (hlen _ hsigM) hstack hdg
  rcases hK m meth c ⟨T.setVm vm₁, locs, cells, slots⟩ { g with stack := rest } (.invokestatic index) mk argsL.toArray X₁ hg hsize hdg hW (X₁.named hnamed) (hpre vm₁ X₁.warmed) with ⟨v, B, X', hpost, hsteps⟩ | ⟨q, B, X', hpost, hsteps⟩
  · exact Or.inl ⟨v, vm₁, B, X₁.warmed, X', hpost, fun target h => hstep₁ _ fun acts => by rw [doInvoke_state]; exact hsteps.trans h⟩
  · exact Or.inr ⟨q, vm₁, B, X₁.warmed, X', hpost, hstep₁ _ fun acts => by rw [doInvoke_state]; exact hsteps⟩
end Calls
theorem vx_cls {s : State} {T : State} {vm₁ : Vm} {E : String} {k : ClassId} (hW : s.WarmedH vm₁) (h : (T.setVm vm₁).vm.findClass E = some k) : s.vm.findClass E = some k := by
  have h1 : vm₁.findClass E = some k := h
  rw [hW.alike.findClass] at h1
  exact h1
/-- the method's frame g, with q thrown over it -/
def vx_W (p : Program) (l : Launch) (e : Env) (R : Room) (s : State) (m : MethodId) (args : Array Value) (below : List Frame) (meth : Method) (c : Code) (H : Heap) (locs : List Loc) (cells slots : Nat) (Q : State → Prop) (g : JFrame) (q : Addr) : Prop :=
  ∀ T : State, T.heap = H → Stand p l e R s m args below meth c T locs cells slots → ∃ t, Steps p.tables e below ((T.setTop g).pushFrame (.throwing q)) t ∧ Q t
def vx_Run (p : Program) (l : Launch) (e : Env) (R : Room) (s : State) (m : MethodId) (args : Array Value) (below : List Frame) (meth : Method) (c : Code) (H : Heap) (locs : List Loc) (cells slots mc ms : Nat) (g : JFrame) (rest : List Value) (Qa : State → Outcome → State → Prop) (XC : String → State → State → Prop) (free : Addr → Prop) : Prop :=
  ∀ T : State, T.heap = H → Stand p l e R s m args below meth c T locs cells slots →
    (∃ (v : Option Value) (st₀ t T' : State) (L : List Loc), st₀.heap = H ∧ Stand p l e R s m args below meth c T' (locs ++ L) (cells + mc) (slots + ms) ∧ (∀ q ∈ L, free q.base) ∧ T'.heap = t.heap ∧ T'.vm = t.vm ∧ Qa st₀ (.returned v) t ∧
      Goes p e below T g T' { g with pc := g.pc + 3, stack := v.toList ++ rest }) ∨
    (∃ (q : Addr) (st₀ t T' : State) (L : List Loc) (E : String) (ce : Cell), st₀.heap = H ∧ Stand p l e R s m args below meth c T' (locs ++ L) (cells + mc) (slots + ms) ∧ (∀ z ∈ L, free z.base) ∧ T'.heap = t.heap ∧ T'.vm = t.vm ∧ XC E st₀ t ∧ t.heap[q]? = some ce ∧ ce.vm = .none ∧ s.vm.findClass E = some ce.cls ∧
      Steps p.tables e below (T.setTop g) ((T'.setTop { g with stack := rest }).pushFrame (.throwing q)))
def vx_X {S : Type} (px : S → Prop) (B : String → S → State → Prop) (A : Nat → Prop) : String → State → State → Prop := fun E st t => ∃ u : S, px u ∧ B E u t ∧ va_F A st t
section Runs
variable {p : Program} {l : Launch} {e : Env} {R : Room} {s : State} {m : MethodId} {args : Array Value} {below : List Frame} {meth : Method} {c : Code} {H : Heap} {locs : List Loc} {cells slots : Nat}
variable {y : MethodName} {bytes cc : ByteArray} {maxL nL mc ms n index : Nat} {ret : Option FieldType} {ws : List Cond} {rm : Room} {Pc : Array Value → State → Prop} {Qc : Array Value → State → Outcome → State → Prop} {XC : String → State → State → Prop} {free : Addr → Prop} {Ts : List Cond} {own C : String} {b : Addr} {As rest : List Value} {g : JFrame}
theorem vx_callBack (cb : CallB R s args own index y bytes maxL ret ws rm mc ms n) (hM : vx_Met l y ws rm Pc Qc XC mc ms free) (hbl : FrameBlind Pc) : vx_Back l R p e below s args y 3 8 (PreOf R mc ms Pc) (PostOf Qc mc ms free) (vx_Post XC mc ms free) := by
  obtain ⟨hrc, hrs, hfr, hlo, hws, hcw, -, hini, -⟩ := cb
  exact vx_back (bytes := bytes) (maxL := maxL) (ret := ret) hM hbl hrc hrs hfr hlo hws hcw (fun a' U hW => word_at hW (Or.inl (by first | rfl | simp [Cond.onTables, Cond.keeps, Cond.steady])) hini)
theorem vx_runV (S : CallFix p m c cc nL s args Ts own) (hM : vx_Met l y ws rm Pc Qc XC mc ms free) (cw : CallW R s args own C index y bytes maxL ret ws rm mc ms n) (hp : PreV s H C b Pc As)
    (hg : g.method = m) (hn : As.length = n) (hsize : g.locals.size = nL) (hstack : g.stack = As.reverse ++ .ref b :: rest) (hW : 2 * g.monitorRoom + (rest.map fun v => v.category).sum ≤ 8) (hdg : decode cc g.pc = .ok (.invokevirtual index, 3)) (hf : cells + mc ≤ R.cells ∧ slots + ms ≤ R.slots) :
    vx_Run p l e R s m args below meth c H locs cells slots mc ms g rest (Qc (Value.ref b :: As).toArray) XC free := by
  have hK : vx_Back l R p e below s args y 3 8 (PreOf R mc ms Pc) (PostOf Qc mc ms free) (vx_Post XC mc ms free) := vx_callBack cw.1 hM hp.1
  obtain ⟨⟨-, -, -, -, -, -, hcode, -, hy, hlen, hl⟩, hin, hse⟩ := cw
  obtain ⟨hx, hb, hml, ho, -⟩ := S
  obtain ⟨-, ⟨cellB, hcB, hoB, hclB⟩, hPc⟩ := hp
  intro T hT X
  rcases vx_callV X hx (C := C) (bytes := bytes) (maxL := maxL) (ret := ret) ho hl hin hse hcode hy hK (by rw [hT]; exact hcB) hoB hclB hg (hsize.trans hml.symm) (argsL := As) (rest := rest) (fun sig h => hn.trans (hlen sig h)) hstack hW (by rw [hb]; exact hdg)
    (fun vm₁ hW₁ => ⟨hf.1, hf.2, hPc (T.setVm vm₁) hT hW₁⟩) with ⟨v, vm₁, ⟨U', l2, c2, s2⟩, hW₁, X', ⟨g', mk, t, L, e1, e2, hq, h1, hL, h2, h3⟩, st⟩ | ⟨q, vm₁, ⟨U', l2, c2, s2⟩, hW₁, X', ⟨g', mk, t, L, E, ce, e1, e2, hq, hce, hcv, hcl, h1, hL, h2, h3⟩, st⟩
  · dsimp only [Pt.U, Pt.locs, Pt.cells, Pt.slots] at X' e1 e2 h1 h2 h3 st
    subst h1; subst h2; subst h3
    exact Or.inl ⟨v, (T.setVm vm₁).calling g' mk (Value.ref b :: As).toArray, t, U', L, hT, X', hL, e1, e2, hq, st⟩
  · dsimp only [Pt.U, Pt.locs, Pt.cells, Pt.slots] at X' e1 e2 h1 h2 h3 st hcl
    subst h1; subst h2; subst h3
    exact Or.inr ⟨q, (T.setVm vm₁).calling g' mk (Value.ref b :: As).toArray, t, U', L, E, ce, hT, X', hL, e1, e2, hq, hce, hcv, vx_cls hW₁ hcl, st⟩
theorem vx_runS (S : CallFix p m c cc nL s args Ts own) (hM : vx_Met l y ws rm Pc Qc XC mc ms free) (cw : CallB R s args own index y bytes maxL ret ws rm mc ms n ∧ (Cond.static y).before args s = true) (hp : PreS s H Pc As)
    (hg : g.method = m) (hn : As.length = n) (hsize : g.locals.size = nL) (hstack : g.stack = As.reverse ++ rest) (hW : 2 * g.monitorRoom + (rest.map fun v => v.category).sum ≤ 8) (hdg : decode cc g.pc = .ok (.invokestatic index, 3)) (hf : cells + mc ≤ R.cells ∧ slots + ms ≤ R.slots) :
    vx_Run p l e R s m args below meth c H locs cells slots mc ms g rest (Qc As.toArray) XC free := by
  have hK : vx_Back l R p e below s args y 3 8 (PreOf R mc ms Pc) (PostOf Qc mc ms free) (vx_Post XC mc ms free) := vx_callBack cw.1 hM hp.1
  obtain ⟨⟨-, -, -, -, -, -, hcode, hini, hy, hlen, hl⟩, hstt⟩ := cw
  obtain ⟨hx, hb, hml, ho, -⟩ := S
  intro T hT X
  rcases vx_callS X hx (bytes := bytes) (maxL := maxL) (ret := ret) ho hl hstt hini hcode hy hK hg (hsize.trans hml.symm) (argsL := As) (rest := rest) (fun sig h => hn.trans (hlen sig h)) hstack hW (by rw [hb]; exact hdg)
    (fun vm₁ hW₁ => ⟨hf.1, hf.2, hp.2 (T.setVm vm₁) hT hW₁⟩) with ⟨v, vm₁, ⟨U', l2, c2, s2⟩, hW₁, X', ⟨g', mk, t, L, e1, e2, hq, h1, hL, h2, h3⟩, st⟩ | ⟨q, vm₁, ⟨U', l2, c2, s2⟩, hW₁, X', ⟨g', mk, t, L, E, ce, e1, e2, hq, hce, hcv, hcl, h1, hL, h2, h3⟩, st⟩
  · dsimp only [Pt.U, Pt.locs, Pt.cells, Pt.slots] at X' e1 e2 h1 h2 h3 st
    subst h1; subst h2; subst h3
    exact Or.inl ⟨v, (T.setVm vm₁).calling g' mk As.toArray, t, U', L, hT, X', hL, e1, e2, hq, st⟩
  · dsimp only [Pt.U, Pt.locs, Pt.cells, Pt.slots] at X' e1 e2 h1 h2 h3 st hcl
    subst h1; subst h2; subst h3
    exact Or.inr ⟨q, (T.setVm vm₁).calling g' mk As.toArray, t, U', L, E, ce, hT, X', hL, e1, e2, hq, hce, hcv, vx_cls hW₁ hcl, st⟩
end Runs
section Rows
variable {p : Program} {l : Launch} {e : Env} {R : Room} {s : State} {m : MethodId} {args : Array Value} {below : List Frame} {meth : Method} {c : Code} {H : Heap} {locs : List Loc} {cells slots : Nat} {Q : State → Prop}
variable {mc ms : Nat} {free : Addr → Prop} {A0 A1 : Nat → Prop} {H0 : Heap} {a : Array Value} {pc : Nat} {ls : Array Slot} {st0 rest : List Value}
theorem vx_keep {st₀ t T' : State} {L : List Loc} (h0 : st₀.heap = H) (e1 : T'.heap = t.heap) (hS : va_S A0 H0 H locs) (hA : ∀ q, q < H.size → A1 q → A0 q) (hf : ∀ q, free q → A0 q) (hL : ∀ q ∈ L, free q.base) (hF : va_F A1 st₀ t) :
    H.size ≤ T'.heap.size ∧ (∀ q : Nat, q < H.size → ¬ A1 q → T'.heap[q]? = H[q]?) ∧ va_S A0 H0 T'.heap (locs ++ L) := by
  obtain ⟨hz, hk⟩ := hF
  rw [h0] at hz hk
  exact ⟨by rw [e1]; exact hz, fun q h1 h2 => by rw [e1]; exact hk q h1 h2,
    ⟨Nat.le_trans hS.1 (by rw [e1]; exact hz), fun q h1 h2 => by rw [e1, hk q (Nat.lt_of_lt_of_le h1 hS.1) (fun z => h2 (hA q (Nat.lt_of_lt_of_le h1 hS.1) z))]; exact hS.2.1 q h1 h2, fun q hq => by
      rcases List.mem_append.mp hq with h | h
      · exact hS.2.2 q h
      · exact hf _ (hL q h)⟩⟩
theorem vx_calli {S SX : Type} {post : Int32 → S → Prop} {px : SX → Prop} {B : S → State → Prop} {BX : String → SX → State → Prop} {AX : Nat → Prop} (hr : vx_Run p l e R s m args below meth c H locs cells slots mc ms (F0 m pc ls st0) rest (va_Qi post B A1 a) (vx_X px BX AX) free) (hS : va_S A0 H0 H locs) (hA : ∀ q, q < H.size → A1 q → A0 q) (hf : ∀ q, free q → A0 q) (hAX : ∀ q, q < H.size → AX q → A0 q)
    (kx : ∀ (E : String) (ce : Cell) (q9 : Addr) (u : SX) (t : State) (H1 : Heap) (locs1 : List Loc), t.heap = H1 → s.vm.Alike t.vm → px u → BX E u t → H.size ≤ H1.size → (∀ q : Nat, q < H.size → ¬ AX q → H1[q]? = H[q]?) → va_S A0 H0 H1 locs1 → H1[q9]? = some ce → ce.vm = .none → s.vm.findClass E = some ce.cls → vx_W p l e R s m args below meth c H1 locs1 (cells + mc) (slots + ms) Q (F0 m pc ls rest) q9)
    (kk : ∀ (r : Int32) (u : S) (t : State) (H1 : Heap) (locs1 : List Loc), t.heap = H1 → s.vm.Alike t.vm → post r u → B u t → H.size ≤ H1.size → (∀ q : Nat, q < H.size → ¬ A1 q → H1[q]? = H[q]?) → va_S A0 H0 H1 locs1 → W p l e R s m args below meth c H1 locs1 (cells + mc) (slots + ms) Q (F0 m (pc + 3) ls (.int r :: rest))) : W p l e R s m args below meth c H locs cells slots Q (F0 m pc ls st0) := by
  intro T hT X
  rcases hr T hT X with ⟨v, st₀, t, T', L, h0, X', hL, e1, e2, ⟨⟨r, u, hv, hp, hb⟩, hF⟩, st⟩ | ⟨q, st₀, t, T', L, E, ce, h0, X', hL, e1, e2, ⟨u, hp, hb, hF⟩, hce, hcv, hcl, st⟩
  · cases hv
    obtain ⟨k1, k2, k3⟩ := vx_keep h0 e1 hS hA hf hL hF
    obtain ⟨t2, a1, b1⟩ := kk r u t T'.heap (locs ++ L) e1.symm (by rw [← e2]; exact X'.warmed.alike) hp hb k1 k2 k3 T' rfl X'
    exact ⟨t2, st t2 a1, b1⟩
  · obtain ⟨k1, k2, k3⟩ := vx_keep h0 e1 hS hAX hf hL hF
    obtain ⟨t2, a1, b1⟩ := kx E ce q u t T'.heap (locs ++ L) e1.symm (by rw [← e2]; exact X'.warmed.alike) hp hb k1 k2 k3 (by rw [e1]; exact hce) hcv hcl T' rfl X'
    exact ⟨t2, st.trans a1, b1⟩
theorem vx_calll {S SX : Type} {post : Int64 → S → Prop} {px : SX → Prop} {B : S → State → Prop} {BX : String → SX → State → Prop} {AX : Nat → Prop} (hr : vx_Run p l e R s m args below meth c H locs cells slots mc ms (F0 m pc ls st0) rest (va_Ql post B A1 a) (vx_X px BX AX) free) (hS : va_S A0 H0 H locs) (hA : ∀ q, q < H.size → A1 q → A0 q) (hf : ∀ q, free q → A0 q) (hAX : ∀ q, q < H.size → AX q → A0 q)
    (kx : ∀ (E : String) (ce : Cell) (q9 : Addr) (u : SX) (t : State) (H1 : Heap) (locs1 : List Loc), t.heap = H1 → s.vm.Alike t.vm → px u → BX E u t → H.size ≤ H1.size → (∀ q : Nat, q < H.size → ¬ AX q → H1[q]? = H[q]?) → va_S A0 H0 H1 locs1 → H1[q9]? = some ce → ce.vm = .none → s.vm.findClass E = some ce.cls → vx_W p l e R s m args below meth c H1 locs1 (cells + mc) (slots + ms) Q (F0 m pc ls rest) q9)
    (kk : ∀ (r : Int64) (u : S) (t : State) (H1 : Heap) (locs1 : List Loc), t.heap = H1 → s.vm.Alike t.vm → post r u → B u t → H.size ≤ H1.size → (∀ q : Nat, q < H.size → ¬ A1 q → H1[q]? = H[q]?) → va_S A0 H0 H1 locs1 → W p l e R s m args below meth c H1 locs1 (cells + mc) (slots + ms) Q (F0 m (pc + 3) ls (.long r :: rest))) : W p l e R s m args below meth c H locs cells slots Q (F0 m pc ls st0) := by
  intro T hT X
  rcases hr T hT X with ⟨v, st₀, t, T', L, h0, X', hL, e1, e2, ⟨⟨r, u, hv, hp, hb⟩, hF⟩, st⟩ | ⟨q, st₀, t, T', L, E, ce, h0, X', hL, e1, e2, ⟨u, hp, hb, hF⟩, hce, hcv, hcl, st⟩
  · cases hv
    obtain ⟨k1, k2, k3⟩ := vx_keep h0 e1 hS hA hf hL hF
    obtain ⟨t2, a1, b1⟩ := kk r u t T'.heap (locs ++ L) e1.symm (by rw [← e2]; exact X'.warmed.alike) hp hb k1 k2 k3 T' rfl X'
    exact ⟨t2, st t2 a1, b1⟩
  · obtain ⟨k1, k2, k3⟩ := vx_keep h0 e1 hS hAX hf hL hF
    obtain ⟨t2, a1, b1⟩ := kx E ce q u t T'.heap (locs ++ L) e1.symm (by rw [← e2]; exact X'.warmed.alike) hp hb k1 k2 k3 (by rw [e1]; exact hce) hcv hcl T' rfl X'
    exact ⟨t2, st.trans a1, b1⟩
theorem vx_callf {S SX : Type} {post : UInt32 → S → Prop} {px : SX → Prop} {B : S → State → Prop} {BX : String → SX → State → Prop} {AX : Nat → Prop} (hr : vx_Run p l e R s m args below meth c H locs cells slots mc ms (F0 m pc ls st0) rest (va_Qf post B A1 a) (vx_X px BX AX) free) (hS : va_S A0 H0 H locs) (hA : ∀ q, q < H.size → A1 q → A0 q) (hf : ∀ q, free q → A0 q) (hAX : ∀ q, q < H.size → AX q → A0 q)
    (kx : ∀ (E : String) (ce : Cell) (q9 : Addr) (u : SX) (t : State) (H1 : Heap) (locs1 : List Loc), t.heap = H1 → s.vm.Alike t.vm → px u → BX E u t → H.size ≤ H1.size → (∀ q : Nat, q < H.size → ¬ AX q → H1[q]? = H[q]?) → va_S A0 H0 H1 locs1 → H1[q9]? = some ce → ce.vm = .none → s.vm.findClass E = some ce.cls → vx_W p l e R s m args below meth c H1 locs1 (cells + mc) (slots + ms) Q (F0 m pc ls rest) q9)
    (kk : ∀ (r : UInt32) (u : S) (t : State) (H1 : Heap) (locs1 : List Loc), t.heap = H1 → s.vm.Alike t.vm → post r u → B u t → H.size ≤ H1.size → (∀ q : Nat, q < H.size → ¬ A1 q → H1[q]? = H[q]?) → va_S A0 H0 H1 locs1 → W p l e R s m args below meth c H1 locs1 (cells + mc) (slots + ms) Q (F0 m (pc + 3) ls (.float r :: rest))) : W p l e R s m args below meth c H locs cells slots Q (F0 m pc ls st0) := by
  intro T hT X
  rcases hr T hT X with ⟨v, st₀, t, T', L, h0, X', hL, e1, e2, ⟨⟨r, u, hv, hp, hb⟩, hF⟩, st⟩ | ⟨q, st₀, t, T', L, E, ce, h0, X', hL, e1, e2, ⟨u, hp, hb, hF⟩, hce, hcv, hcl, st⟩
  · cases hv
    obtain ⟨k1, k2, k3⟩ := vx_keep h0 e1 hS hA hf hL hF
    obtain ⟨t2, a1, b1⟩ := kk r u t T'.heap (locs ++ L) e1.symm (by rw [← e2]; exact X'.warmed.alike) hp hb k1 k2 k3 T' rfl X'
    exact ⟨t2, st t2 a1, b1⟩
  · obtain ⟨k1, k2, k3⟩ := vx_keep h0 e1 hS hAX hf hL hF
    obtain ⟨t2, a1, b1⟩ := kx E ce q u t T'.heap (locs ++ L) e1.symm (by rw [← e2]; exact X'.warmed.alike) hp hb k1 k2 k3 (by rw [e1]; exact hce) hcv hcl T' rfl X'
    exact ⟨t2, st.trans a1, b1⟩
theorem vx_calld {S SX : Type} {post : UInt64 → S → Prop} {px : SX → Prop} {B : S → State → Prop} {BX : String → SX → State → Prop} {AX : Nat → Prop} (hr : vx_Run p l e R s m args below meth c H locs cells slots mc ms (F0 m pc ls st0) rest (va_Qd post B A1 a) (vx_X px BX AX) free) (hS : va_S A0 H0 H locs) (hA : ∀ q, q < H.size → A1 q → A0 q) (hf : ∀ q, free q → A0 q) (hAX : ∀ q, q < H.size → AX q → A0 q)
    (kx : ∀ (E : String) (ce : Cell) (q9 : Addr) (u : SX) (t : State) (H1 : Heap) (locs1 : List Loc), t.heap = H1 → s.vm.Alike t.vm → px u → BX E u t → H.size ≤ H1.size → (∀ q : Nat, q < H.size → ¬ AX q → H1[q]? = H[q]?) → va_S A0 H0 H1 locs1 → H1[q9]? = some ce → ce.vm = .none → s.vm.findClass E = some ce.cls → vx_W p l e R s m args below meth c H1 locs1 (cells + mc) (slots + ms) Q (F0 m pc ls rest) q9)
    (kk : ∀ (r : UInt64) (u : S) (t : State) (H1 : Heap) (locs1 : List Loc), t.heap = H1 → s.vm.Alike t.vm → post r u → B u t → H.size ≤ H1.size → (∀ q : Nat, q < H.size → ¬ A1 q → H1[q]? = H[q]?) → va_S A0 H0 H1 locs1 → W p l e R s m args below meth c H1 locs1 (cells + mc) (slots + ms) Q (F0 m (pc + 3) ls (.double r :: rest))) : W p l e R s m args below meth c H locs cells slots Q (F0 m pc ls st0) := by
  intro T hT X
  rcases hr T hT X with ⟨v, st₀, t, T', L, h0, X', hL, e1, e2, ⟨⟨r, u, hv, hp, hb⟩, hF⟩, st⟩ | ⟨q, st₀, t, T', L, E, ce, h0, X', hL, e1, e2, ⟨u, hp, hb, hF⟩, hce, hcv, hcl, st⟩
  · cases hv
    obtain ⟨k1, k2, k3⟩ := vx_keep h0 e1 hS hA hf hL hF
    obtain ⟨t2, a1, b1⟩ := kk r u t T'.heap (locs ++ L) e1.symm (by rw [← e2]; exact X'.warmed.alike) hp hb k1 k2 k3 T' rfl X'
    exact ⟨t2, st t2 a1, b1⟩
  · obtain ⟨k1, k2, k3⟩ := vx_keep h0 e1 hS hAX hf hL hF
    obtain ⟨t2, a1, b1⟩ := kx E ce q u t T'.heap (locs ++ L) e1.symm (by rw [← e2]; exact X'.warmed.alike) hp hb k1 k2 k3 (by rw [e1]; exact hce) hcv hcl T' rfl X'
    exact ⟨t2, st.trans a1, b1⟩
theorem vx_callv {S SX : Type} {post : S → Prop} {px : SX → Prop} {B : S → State → Prop} {BX : String → SX → State → Prop} {AX : Nat → Prop} (hr : vx_Run p l e R s m args below meth c H locs cells slots mc ms (F0 m pc ls st0) rest (va_Qv post B A1 a) (vx_X px BX AX) free) (hS : va_S A0 H0 H locs) (hA : ∀ q, q < H.size → A1 q → A0 q) (hf : ∀ q, free q → A0 q) (hAX : ∀ q, q < H.size → AX q → A0 q)
    (kx : ∀ (E : String) (ce : Cell) (q9 : Addr) (u : SX) (t : State) (H1 : Heap) (locs1 : List Loc), t.heap = H1 → s.vm.Alike t.vm → px u → BX E u t → H.size ≤ H1.size → (∀ q : Nat, q < H.size → ¬ AX q → H1[q]? = H[q]?) → va_S A0 H0 H1 locs1 → H1[q9]? = some ce → ce.vm = .none → s.vm.findClass E = some ce.cls → vx_W p l e R s m args below meth c H1 locs1 (cells + mc) (slots + ms) Q (F0 m pc ls rest) q9)
    (kk : ∀ (u : S) (t : State) (H1 : Heap) (locs1 : List Loc), t.heap = H1 → s.vm.Alike t.vm → post u → B u t → H.size ≤ H1.size → (∀ q : Nat, q < H.size → ¬ A1 q → H1[q]? = H[q]?) → va_S A0 H0 H1 locs1 → W p l e R s m args below meth c H1 locs1 (cells + mc) (slots + ms) Q (F0 m (pc + 3) ls (rest))) : W p l e R s m args below meth c H locs cells slots Q (F0 m pc ls st0) := by
  intro T hT X
  rcases hr T hT X with ⟨v, st₀, t, T', L, h0, X', hL, e1, e2, ⟨⟨u, hv, hp, hb⟩, hF⟩, st⟩ | ⟨q, st₀, t, T', L, E, ce, h0, X', hL, e1, e2, ⟨u, hp, hb, hF⟩, hce, hcv, hcl, st⟩
  · cases hv
    obtain ⟨k1, k2, k3⟩ := vx_keep h0 e1 hS hA hf hL hF
    obtain ⟨t2, a1, b1⟩ := kk u t T'.heap (locs ++ L) e1.symm (by rw [← e2]; exact X'.warmed.alike) hp hb k1 k2 k3 T' rfl X'
    exact ⟨t2, st t2 a1, b1⟩
  · obtain ⟨k1, k2, k3⟩ := vx_keep h0 e1 hS hAX hf hL hF
    obtain ⟨t2, a1, b1⟩ := kx E ce q u t T'.heap (locs ++ L) e1.symm (by rw [← e2]; exact X'.warmed.alike) hp hb k1 k2 k3 (by rw [e1]; exact hce) hcv hcl T' rfl X'
    exact ⟨t2, st.trans a1, b1⟩
/-- caught by the row x of this method's table; the rows ahead don't take it -/
theorem vx_catch {own name : String} {E : String} {ce : Cell} {q : Addr} (hown : s.vm.findClass own = some m.cls) (pre : List ExceptionTableEntry) (x : ExceptionTableEntry) (suf : List ExceptionTableEntry) (hsplit : c.exceptionTable.toList = pre ++ x :: suf)
    (hpass : ∀ z ∈ pre, covers z pc = false ∨ (z.catchType ≠ 0 ∧ ∃ nm : String, (Cond.classLink own z.catchType nm).before args s = true ∧ va_Nc E nm s)) (hx : covers x pc = true) (h0 : x.catchType ≠ 0)
    (hlink : (Cond.classLink own x.catchType name).before args s = true) (hcast : (Cond.castable E name).before args s = true) (hcell : H[q]? = some ce) (hv : ce.vm = .none) (hcl : s.vm.findClass E = some ce.cls)
    (kk : W p l e R s m args below meth c H locs cells slots Q (F0 m x.handlerPc ls [.ref q])) : vx_W p l e R s m args below meth c H locs cells slots Q (F0 m pc ls rest) q := by
  intro T hT X
  have hpl : e.platform.magicAccessors = ({} : Platform).magicAccessors := by rw [X.admits.platform]
  obtain ⟨c3, c4, hc3, hc4, hasg⟩ := Cond.castable_spec hcast
  cases Option.some.inj (hc3.symm.trans hcl)
  obtain ⟨c5, hc5, hcl5⟩ := Cond.classLink_spec hown hlink e.platform hpl
  cases Option.some.inj (hc4.symm.trans hc5)
  obtain ⟨vm', X', st⟩ := X.thenCaughtThrough q (g := F0 m pc ls rest) rfl (Steps.refl _) (by rw [hT]; exact hcell) (by rw [hv]; rfl) (by obtain ⟨k9, h9, -⟩ := Vm.findClass_spec hcl; exact ⟨k9, h9⟩) pre x suf hsplit
    (fun z hz => by
      rcases hpass z hz with h | ⟨hz0, nm, hl1, hn1⟩
      · exact Or.inl h
      · obtain ⟨c6, hc6, hcl6⟩ := Cond.classLink_spec hown hl1 e.platform hpl
        obtain ⟨a8, b8, h1, h2, h3⟩ := hn1
        cases Option.some.inj (h1.symm.trans hcl)
        cases Option.some.inj (h2.symm.trans hc6)
        exact Or.inr ⟨hz0, _, hcl6, h3⟩) hx (Or.inr ⟨h0, c4, hcl5, hasg⟩)
  obtain ⟨t, a1, b1⟩ := kk (T.setVm vm') hT X'
  exact ⟨t, st.trans a1, b1⟩
end Rows
section Ends
variable {p : Program} {l : Launch} {e : Env} {R : Room} {s : State} {m : MethodId} {args : Array Value} {below : List Frame} {meth : Method} {c : Code} {H : Heap} {locs : List Loc} {cells slots : Nat} {Q : State → Prop}
variable {mc ms : Nat} {free : Addr → Prop} {A0 A1 : Nat → Prop} {H0 : Heap} {a : Array Value} {ls : Array Slot} {st0 rest : List Value}
variable {Qc : Array Value → State → Outcome → State → Prop} {XC : String → State → State → Prop}
/-- what a body that may throw owes at its end -/
def vx_MQ (below : List Frame) (Qc : Array Value → State → Outcome → State → Prop) (XC : String → State → State → Prop) (a : Array Value) (s : State) (mc ms : Nat) (free : Addr → Prop) : State → Prop := fun t =>
  ∃ o, t.status = .running ∧ Ended t below o ∧ vx_Q Qc XC mc ms free a s o t
theorem vx_ret {g : JFrame} {mc ms : Nat} (k : W p l e R s m args below meth c H locs cells slots (MQ below Qc args s mc ms free) g) : W p l e R s m args below meth c H locs cells slots (vx_MQ below Qc XC args s mc ms free) g := by
  intro T hT X
  obtain ⟨t, a1, o, b1, b2, b3, b4⟩ := k T hT X
  exact ⟨t, a1, o, b1, b2, Or.inl ⟨b3, b4⟩⟩
/-- not caught here: it goes on to the caller -/
theorem vx_widen {g : JFrame} {q : Addr} {k n : Nat} (h1 : cells ≤ k) (h2 : slots ≤ n) (kk : vx_W p l e R s m args below meth c H locs k n Q g q) : vx_W p l e R s m args below meth c H locs cells slots Q g q := fun T hT X => kk T hT (stand_widen X h1 h2)
theorem vx_out {pc : Nat} {E : String} {ce : Cell} {q : Addr} {mc ms : Nat} (hout : ∀ x ∈ c.exceptionTable.toList, covers x pc = false) (hlocks : meth.locks = false) (hcell : H[q]? = some ce) (hv : ce.vm = .none) (hcl : s.vm.findClass E = some ce.cls)
    (hx : ∀ t : State, t.heap = H → s.vm.Alike t.vm → XC E s t) (hf : ∀ z ∈ locs, free z.base) (hc : cells ≤ mc) (hs : slots ≤ ms) :
    vx_W p l e R s m args below meth c H locs cells slots (vx_MQ below Qc XC args s mc ms free) (F0 m pc ls rest) q := by
  intro T hT X
  obtain ⟨st1, hrun, hend, hW, hsm⟩ := X.leaveThrown q (g := F0 m pc ls rest) rfl rfl rfl hout hlocks
  have hcell9 : (T.setFrames (.throwing q :: below)).heap[q]? = some ce := by
    show T.heap[q]? = some ce
    rw [hT]; exact hcell
  exact ⟨_, st1, .threw q, hrun, hend, Or.inr ⟨q, rfl, E, ce, locs, hx _ hT hW.alike, hcell9, hv, hcl, hW, hsm.mono hc hs, hf⟩⟩
theorem vx_frame {U : State} {k n : Nat} (h : s.sameButNew ({ U with vm := s.vm } : State) locs k n) : s.heap.size ≤ U.heap.size ∧ ∀ q : Nat, q < s.heap.size → (∀ z ∈ locs, z.base ≠ q) → U.heap[q]? = s.heap[q]? := by
  obtain ⟨-, h2, -, -, -, h6⟩ := h
  refine ⟨h2, fun q hq hz => ?_⟩
  obtain ⟨c9, e1, e2, e3, e4⟩ := h6 q _ (Array.getElem?_eq_getElem hq)
  have hs : c9.slots = (s.heap[q]).slots := Array.ext_getElem? fun i => e4 i fun hm => hz _ hm rfl
  have h9 : c9 = s.heap[q] := by
    rw [hs] at e2
    exact e2
  have e5 : U.heap[q]? = some c9 := e1
  rw [e5, h9, Array.getElem?_eq_getElem hq]
/-- the words of a throw but the four that speak of the heap -/
def vx_no (w : Cond) : Bool := decide (w ≠ .isRef (.static Bundle.tN "UNASSIGNED_STACK" Bundle.steD)) && decide (w ≠ .isRef (.static Bundle.tN "SUPPRESSED_SENTINEL" Bundle.listD)) && decide (w ≠ .laysStatic Bundle.tN "UNASSIGNED_STACK" Bundle.steD) && decide (w ≠ .laysStatic Bundle.tN "SUPPRESSED_SENTINEL" Bundle.listD)
def vx_at0 (own : String) (ic : Nat) (X : String) (names : List String) : List Cond := (Bundle.ownAtoms0 own ic X names).filter vx_no
def vx_atS (own : String) (ic : Nat) (X : String) (names : List String) : List Cond := (Bundle.ownAtoms own ic X names).filter vx_no
/-- a word that the tables alone decide, or a good one -/
def vx_ot (w : Cond) : Bool := w.onTables || goodWord w
theorem vx_ot_at {args a' : Array Value} {s U : State} {w : Cond} (hW : s.WarmedH U.vm) (hvm : s.vm = U.vm) (hg : vx_ot w = true) (h : w.before args s = true) : w.before a' U = true := by
  simp only [vx_ot, Bool.or_eq_true] at hg
  rcases hg with hg | hg
  · exact va_tabs hg hvm h
  · exact word_at hW (good_of_word hg) h
/-- a list's words: the good ones out of the method's own list, the others by premises of their own -/
theorem vx_hat {args : Array Value} {s : State} {L B : List Cond} (h1 : ∀ w ∈ L.filter goodWord, w.before args s = true) (h2 : ∀ w ∈ L.filter (fun w => !goodWord w), w ∈ B) (h3 : ∀ w ∈ B, w.before args s = true) : ∀ w ∈ L, w.before args s = true := by
  intro w hw
  by_cases g : goodWord w = true
  · exact h1 w (List.mem_filter.mpr ⟨hw, g⟩)
  · refine h3 w (h2 w (List.mem_filter.mpr ⟨hw, ?_⟩))
    show (!goodWord w) = true
    cases hgw : goodWord w
    · rfl
    · exact absurd hgw g
theorem vx_c {args : Array Value} {s : State} {w : Cond} {B : List Cond} (h : w.before args s = true) (t : ∀ w ∈ B, w.before args s = true) : ∀ w' ∈ w :: B, w'.before args s = true := fun w' h' => (List.mem_cons.mp h').elim (fun e => by rw [e]; exact h) (t w')
theorem vx_n {args : Array Value} {s : State} : ∀ w ∈ ([] : List Cond), w.before args s = true := fun _ h => nomatch h
theorem vx_own {args : Array Value} {s : State} {L : List Cond} (h1 : ∀ w ∈ L.filter vx_no, w.before args s = true)
    (hU : (Cond.isRef (.static Bundle.tN "UNASSIGNED_STACK" Bundle.steD)).before args s = true) (hN : (Cond.isRef (.static Bundle.tN "SUPPRESSED_SENTINEL" Bundle.listD)).before args s = true)
    (lU : (Cond.laysStatic Bundle.tN "UNASSIGNED_STACK" Bundle.steD).before args s = true) (lN : (Cond.laysStatic Bundle.tN "SUPPRESSED_SENTINEL" Bundle.listD).before args s = true) : ∀ w ∈ L, w.before args s = true := by
  intro w hw
  by_cases e1 : w = .isRef (.static Bundle.tN "UNASSIGNED_STACK" Bundle.steD)
  · rw [e1]; exact hU
  · by_cases e2 : w = .isRef (.static Bundle.tN "SUPPRESSED_SENTINEL" Bundle.listD)
    · rw [e2]; exact hN
    · by_cases e3 : w = .laysStatic Bundle.tN "UNASSIGNED_STACK" Bundle.steD
      · rw [e3]; exact lU
      · by_cases e4 : w = .laysStatic Bundle.tN "SUPPRESSED_SENTINEL" Bundle.listD
        · rw [e4]; exact lN
        · exact h1 w (List.mem_filter.mpr ⟨hw, by unfold vx_no; rw [decide_eq_true e1, decide_eq_true e2, decide_eq_true e3, decide_eq_true e4]; rfl⟩)
/-- where a static field lies, its class's statics cell in H -/
def vx_L (C n d : String) (A : Nat → Prop) (U : State) (H : Heap) : Prop := ∃ (c : ClassId) (k : Class) (i : Nat) (f : Field) (a : Nat) (cell : Cell), U.vm.findClass C = some c ∧ U.fieldFound? C n d = some (c, k, i, f) ∧ f.isStatic = true ∧ k.statics = some a ∧ H[a]? = some cell ∧ cell.vm.isStatics = true ∧ cell.cls = c ∧ f.slot < cell.slots.size ∧ k.staticTypes[f.slot]? = some f.type ∧ ¬ A a
theorem vx_L.moved {C n d : String} {A : Nat → Prop} {u U : State} {H : Heap} (hvm : u.vm.Alike U.vm) (h : vx_L C n d A u H) : vx_L C n d A U H := by
  obtain ⟨c, k, i, f, a, cell, h1, h2, h3, h4, h5, h6, h7, h8, h9, h10⟩ := h
  obtain ⟨k', hi', he⟩ := State.fieldFound?_setVm hvm h2
  exact ⟨c, k', i, f, a, cell, by rw [hvm.findClass]; exact h1, hi', h3, by rw [he]; exact h4, h5, h6, h7, h8, by rw [he]; exact h9, h10⟩
theorem vx_L.kept {C n d : String} {A : Nat → Prop} {U : State} {H H1 : Heap} (h : vx_L C n d A U H) (hq : ∀ a : Nat, a < H.size → ¬ A a → H1[a]? = H[a]?) : vx_L C n d A U H1 := by
  obtain ⟨c, k, i, f, a, cell, h1, h2, h3, h4, h5, h6, h7, h8, h9, h10⟩ := h
  exact ⟨c, k, i, f, a, cell, h1, h2, h3, h4, by rw [hq a (Array.getElem?_eq_some_iff.mp h5).1 h10]; exact h5, h6, h7, h8, h9, h10⟩
theorem vx_L.narrow {C n d : String} {A B : Nat → Prop} {U : State} {H : Heap} (h : vx_L C n d A U H) (hAB : ∀ q, B q → A q) : vx_L C n d B U H := by
  obtain ⟨c, k, i, f, a, cell, h1, h2, h3, h4, h5, h6, h7, h8, h9, h10⟩ := h
  exact ⟨c, k, i, f, a, cell, h1, h2, h3, h4, h5, h6, h7, h8, h9, fun z => h10 (hAB _ z)⟩
theorem vx_L.word {C n d : String} {A : Nat → Prop} {s : State} {args : Array Value} (h : vx_L C n d A s s.heap) : (Cond.laysStatic C n d).before args s = true := by
  obtain ⟨c, k, i, f, a, cell, h1, h2, h3, h4, h5, h6, h7, h8, h9, -⟩ := h
  show (Cond.laysStatic C n d).holds args s none s [] = true
  exact Cond.laysStatic_of h1 h2 h3 h4 h5 h6 h7 h8 h9
/-- .. and what it holds: null or some reference -/
def vx_Zq (C n d : String) (A : Nat → Prop) (U : State) (H : Heap) : Prop := va_Zq C n d A U H ∧ vx_L C n d A U H
theorem vx_Zq.moved {C n d : String} {A : Nat → Prop} {u U : State} {H : Heap} (hvm : u.vm.Alike U.vm) (h : vx_Zq C n d A u H) : vx_Zq C n d A U H := ⟨va_Zq.moved hvm h.1, vx_L.moved hvm h.2⟩
theorem vx_Zq.kept {C n d : String} {A : Nat → Prop} {U : State} {H H1 : Heap} (h : vx_Zq C n d A U H) (hq : ∀ a : Nat, a < H.size → ¬ A a → H1[a]? = H[a]?) : vx_Zq C n d A U H1 := ⟨va_Zq.kept h.1 hq, vx_L.kept h.2 hq⟩
theorem vx_Zq.narrow {C n d : String} {A B : Nat → Prop} {U : State} {H : Heap} (h : vx_Zq C n d A U H) (hAB : ∀ q, B q → A q) : vx_Zq C n d B U H := ⟨va_Zq.narrow h.1 hAB, vx_L.narrow h.2 hAB⟩
theorem vx_Zqof {args : Array Value} {s : State} {C n d : String} {A : Nat → Prop} (hl : (Cond.laysStatic C n d).before args s = true) (hini : (Cond.initialized C).before args s = true) (h : (Cond.isRef (.static C n d)).before args s = true) (hA : ∀ a : Nat, a < s.heap.size → ¬ A a) : vx_Zq C n d A s s.heap := by
  refine ⟨va_Zqof hl hini h hA, ?_⟩
  obtain ⟨c, k, i, f, a, cell, h1, h2, h3, h4, h5, h6, h7, h8, h9⟩ := Cond.laysStatic_spec hl
  exact ⟨c, k, i, f, a, cell, h1, h2, h3, h4, h5, h6, h7, h8, h9, hA a (Array.getElem?_eq_some_iff.mp h5).1⟩
theorem vx_isRef {C n d : String} {v : Value} {A : Nat → Prop} {s : State} {args : Array Value} (h : va_Z C n d v A s s.heap) (hv : v.isRef = true) : (Cond.isRef (.static C n d)).before args s = true := by
  obtain ⟨cf, kf, fi, f, a, cell, h1, h2, h3, h4, h5, h6, h7, -⟩ := h
  have he : (Term.static C n d).eval args s none [] s = some v := by
    simp [Term.eval, State.fieldNamed?, h1, h2, h4, h5, h6, h7]
  simp only [Cond.before, Cond.holds, Cond.value, he]
  cases v <;> simp_all [Value.isRef]
theorem vx_isRefq {C n d : String} {A : Nat → Prop} {s : State} {args : Array Value} (h : va_Zq C n d A s s.heap) : (Cond.isRef (.static C n d)).before args s = true := by
  rcases h with h | ⟨t, h⟩
  · exact vx_isRef h rfl
  · exact vx_isRef h rfl
/-- the same frame, seen from here: as if the method were called anew in this heap -/
theorem vx_rebase {T : State} (X : Stand p l e R s m args below meth c T locs cells slots) {R' : Room} (hf : R'.frames ≤ R.frames) (hl : R'.locals ≤ R.locals) (hc : cells + R'.cells ≤ R.cells) (hs : slots + R'.slots ≤ R.slots) :
    Stand p l e R' ((T.setVm s.vm).setFrames (.invoking m args :: below)) m args below meth c T [] 0 0 := by
  have htop : (T.setVm s.vm).topJava?.isSome := X.here.top
  have hF : ((T.setVm s.vm).setFrames (.invoking m args :: below)).frames = .invoking m args :: below := State.frames_setFrames _ (State.cur_lt_of_top htop)
  obtain ⟨g₀, hg0⟩ := Option.isSome_iff_exists.mp htop
  obtain ⟨r, hr⟩ := State.topJava?_eq_some.mp hg0
  have hl9 : e.platform.stackLimits (T.setVm s.vm).me = e.platform.stackLimits s.me := X.limits
  have hb9 : (T.setVm s.vm).me.stackBytes = s.me.stackBytes := X.bytes
  refine ⟨X.admits, X.cas, X.clock, hF, ?_, X.hears, X.method, X.code, X.here, X.tail, X.warmed, ?_, ?_, ?_⟩
  · have h := X.room
    have hU : ((T.setVm s.vm).setFrames (.invoking m args :: below)).localsInUse = s.localsInUse := by
      rw [State.localsInUse_invoking hF (meth := meth) (c := c) X.method X.code, State.localsInUse_invoking X.frames X.method X.code]
    simp only [State.hasRoom, Bool.and_eq_true, decide_eq_true_eq] at h ⊢
    obtain ⟨⟨⟨⟨h1, h2, h3, h4, h5, h6⟩, h7⟩, h8⟩, h9⟩ := h
    rw [X.frames, List.length_cons] at h2 h3
    have q1 := X.heapSize
    have q2 := X.used
    simp only [hF, hU, List.length_cons, State.stackLimits_setFrames, State.stackBytes_setFrames, hl9, hb9]
    refine ⟨⟨⟨⟨by omega, by omega, by omega, by omega, by omega, h6⟩, ?_⟩, ?_⟩, X.book⟩
    · show T.heap.size + R'.cells ≤ e.platform.maxCells
      omega
    · show T.slotsUsed + R'.slots ≤ e.platform.maxSlots
      omega
  · rw [State.stackLimits_setFrames]; rfl
  · rw [State.stackBytes_setFrames]; rfl
  · refine ⟨?_, Nat.le_refl _, Nat.le_refl _, ?_, ?_, fun a c9 h9 => ⟨c9, h9, rfl, rfl, fun _ _ => rfl⟩⟩
    · obtain ⟨t, ht, -⟩ := State.frames_cons hr
      show T.setVm s.vm = { ((T.setVm s.vm).setFrames (.invoking m args :: below)).setFrames (T.setVm s.vm).frames with heap := T.heap, slotsUsed := T.slotsUsed }
      rw [State.setFrames_setFrames, State.setFrames_self ht]
      rfl
    · show T.slotsUsed = T.slotsUsed + ((T.heap.toList.drop T.heap.size).map (·.slots.size)).sum
      rw [List.drop_eq_nil_of_le (Nat.le_of_eq Array.length_toList)]
      rfl
    · show ((T.heap.toList.drop T.heap.size).map (·.slots.size)).sum ≤ 0
      rw [List.drop_eq_nil_of_le (Nat.le_of_eq Array.length_toList)]
      exact Nat.le_refl _
/-- 'throw new E()': new; dup; invokespecial; athrow -/
theorem vx_throw0 {cc : ByteArray} {pc : Nat} (hexec : p.tables.exec = Jvm.exec) (hb : c.code = cc) (hl : l.stackTraces = false) {own cls : String} {names : List String} {ik ic mc ms : Nat} {A : Nat → Prop}
    (hown : s.vm.findClass own = some m.cls) (hcls : Bundle.fit cls = true) (hnames : ∀ n ∈ names, Bundle.fit n = true)
    (hk : (Cond.classLink own ik cls).before args s = true) (hini : (Cond.initialized cls).before args s = true) (hat : ∀ w ∈ vx_at0 own ic cls names, w.before args s = true)
    (hgood : ∀ w ∈ Cond.classLink own ik cls :: Cond.initialized cls :: vx_at0 own ic cls names, vx_ot w = true)
    (hU : vx_Zq Bundle.tN "UNASSIGNED_STACK" Bundle.steD A s s.heap) (hN : vx_Zq Bundle.tN "SUPPRESSED_SENTINEL" Bundle.listD A s s.heap) (hS : va_S A s.heap H locs) (hsize : ls.size = c.maxLocals)
    (d0 : decode cc pc = .ok (.new ik, 3)) (d3 : decode cc (pc + 3) = .ok (.dup, 1)) (d4 : decode cc (pc + 4) = .ok (.invokespecial ic, 3)) (d7 : decode cc (pc + 7) = .ok (.athrow, 1))
    (hout : ∀ x ∈ c.exceptionTable.toList, covers x (pc + 7) = false)
    (hRframes : names.length + 3 < R.frames) (hRlocals : (rest.map fun v => v.category).sum + (13 * (names.length + 1) + 42) ≤ R.locals) (hRcells : cells + 1 ≤ R.cells) (hRslots : slots + 6 ≤ R.slots) (hlocks : meth.locks = false)
    (hx : ∀ t : State, s.vm.Alike t.vm → H.size ≤ t.heap.size → (∀ q : Nat, q < H.size → t.heap[q]? = H[q]?) → XC cls s t)
    (hf : ∀ z ∈ locs, free z.base) (hc : cells + 1 ≤ mc) (hs : slots + 6 ≤ ms) :
    W p l e R s m args below meth c H locs cells slots (vx_MQ below Qc XC args s mc ms free) (F0 m pc ls rest) := by
  intro T hT X
  have htr : e.platform.stackTraces = false := (show e.platform.stackTraces = l.stackTraces by rw [X.admits.platform]).trans hl
  have Y := vx_rebase X (R' := { frames := R.frames, locals := R.locals, cells := 1, slots := 6 }) (Nat.le_refl _) (Nat.le_refl _) hRcells hRslots
  obtain ⟨s', hA⟩ : ∃ z, z = (T.setVm s.vm).setFrames (.invoking m args :: below) := ⟨_, rfl⟩
  rw [← hA] at Y
  have hvm : s'.vm = s.vm := by rw [hA]; rfl
  have hhp : s'.heap = H := by rw [hA]; exact hT
  have hW0 : s.WarmedH s'.vm := by rw [hvm]; exact State.WarmedH.refl s
  have hat' : ∀ w ∈ vx_at0 own ic cls names, w.before args s' = true := fun w hw => vx_ot_at hW0 hvm.symm (hgood w (List.mem_cons_of_mem _ (List.mem_cons_of_mem _ hw))) (hat w hw)
  have hk' : (Cond.classLink own ik cls).before args s' = true := vx_ot_at hW0 hvm.symm (hgood _ List.mem_cons_self) hk
  have hini' : (Cond.initialized cls).before args s' = true := vx_ot_at hW0 hvm.symm (hgood _ (List.mem_cons_of_mem _ List.mem_cons_self)) hini
  have hU' : vx_Zq Bundle.tN "UNASSIGNED_STACK" Bundle.steD A s' s'.heap := by rw [hhp]; exact vx_Zq.moved hW0.alike (hU.kept hS.2.1)
  have hN' : vx_Zq Bundle.tN "SUPPRESSED_SENTINEL" Bundle.listD A s' s'.heap := by rw [hhp]; exact vx_Zq.moved hW0.alike (hN.kept hS.2.1)
  have h : ∀ w ∈ Bundle.ownAtoms0 own ic cls names, w.before args s' = true := vx_own hat' (vx_isRefq hU'.1) (vx_isRefq hN'.1) hU'.2.word hN'.2.word
  have hown' : s'.vm.findClass own = some m.cls := by rw [hvm]; exact hown
  have hins : (Cond.instantiable cls 6).before args s' = true := h _ (by simp [Bundle.ownAtoms0])
  obtain ⟨vm₁, cX, kX, hfX, hkX, -, -, X₁, st1⟩ := Y.newCold hexec (own := own) (C := cls) (index := ik) (n := 6) hown' hk' hins hini'
    (g := F0 m pc ls rest) rfl (by rw [hb]; exact d0) (Nat.le_refl _) (Nat.le_refl _)
  generalize hT1 : (T.setVm vm₁).pushCell { cls := cX, slots := kX.instanceTypes.map defaultValue, vm := .none } = T1 at X₁ st1
  have hcat : (Value.ref T.heap.size).category = 1 := rfl
  have hcellA : T1.heap[T.heap.size]? = some (freshCell cX kX) := by rw [← hT1]; exact State.heap_pushCell_size _ _
  have d3' : decode c.code (pc + 3) = .ok (.dup, 1) := by rw [hb]; exact d3
  obtain ⟨U, hsteps, hrun, hend, hW, hsame, ce, hce, hO⟩ := X₁.ctorThrow0 hexec htr (own := own) (cls := cls) (names := names) (ic := ic) hown' hcls hnames h (fun x hx => nomatch hx) hfX hkX hcellA (by rw [hhp, hT]; exact Nat.le_refl _)
    (g := { method := m, pc := pc + 4, locals := ls, stack := .ref T.heap.size :: .ref T.heap.size :: rest, locked := none }) rfl hsize rfl rfl (rest := rest) rfl
    (by rw [hb]; exact d4) (by rw [hb]; exact d7) hout hRframes (by simp only [List.map_cons, List.sum_cons, hcat]; omega) hlocks
  obtain ⟨f1, f2⟩ := vx_frame hsame
  rw [hhp] at f1 f2
  have hWs : s.WarmedH U.vm := State.WarmedH.trans hW0 hW
  have hcl : s.vm.findClass cls = some ce.cls := by
    have h9 := hO.cls
    rw [hvm] at h9
    exact h9
  have hall : s.sameButNew ({ U with vm := s.vm } : State) locs mc ms := by
    subst hA
    obtain ⟨e1, e2⟩ := hsame
    rw [State.setFrames_setFrames] at e1
    have h2 : (T.setVm s.vm).sameButNew ({ U with vm := s.vm } : State) [] (0 + 1) (0 + 6) := ⟨e1, e2⟩
    have h3 := X.same.trans h2
    rw [List.append_nil] at h3
    exact h3.mono hc hs
  refine ⟨U, ?_, .threw T.heap.size, hrun, hend, Or.inr ⟨T.heap.size, rfl, cls, ce, locs, hx U hWs.alike f1 (fun q hq => f2 q hq (fun z hz => nomatch hz)), hce, hO.vm, hcl, hWs, hall, hf⟩⟩
  refine st1 _ ?_
  show Steps p.tables e below (T1.setTop { method := m, pc := pc + 3, locals := ls, stack := .ref T.heap.size :: rest, locked := none }) _
  jvm_step X₁.here [X₁.here.top, hexec, d3', Value.category]
  exact hsteps
/-- 'throw new E("text")': new; dup; ldc; invokespecial; athrow -/
theorem vx_throwS {cc : ByteArray} {pc : Nat} (hexec : p.tables.exec = Jvm.exec) (hb : c.code = cc) (hl : l.stackTraces = false) {own cls text : String} {names : List String} {ik is ic mc ms sa : Nat} {A : Nat → Prop}
    (hown : s.vm.findClass own = some m.cls) (hcls : Bundle.fit cls = true) (hnames : ∀ n ∈ names, Bundle.fit n = true)
    (hk : (Cond.classLink own ik cls).before args s = true) (hini : (Cond.initialized cls).before args s = true) (hstr : vk_R own is text sa s) (hat : ∀ w ∈ vx_atS own ic cls names, w.before args s = true)
    (hgood : ∀ w ∈ Cond.classLink own ik cls :: Cond.initialized cls :: vx_atS own ic cls names, vx_ot w = true)
    (hU : vx_Zq Bundle.tN "UNASSIGNED_STACK" Bundle.steD A s s.heap) (hN : vx_Zq Bundle.tN "SUPPRESSED_SENTINEL" Bundle.listD A s s.heap) (hS : va_S A s.heap H locs) (hsize : ls.size = c.maxLocals)
    (d0 : decode cc pc = .ok (.new ik, 3)) (d3 : decode cc (pc + 3) = .ok (.dup, 1)) (d4 : decode cc (pc + 4) = .ok (.ldc is, 2)) (d6 : decode cc (pc + 6) = .ok (.invokespecial ic, 3)) (d9 : decode cc (pc + 9) = .ok (.athrow, 1))
    (hout : ∀ x ∈ c.exceptionTable.toList, covers x (pc + 9) = false)
    (hRframes : names.length + 3 < R.frames) (hRlocals : (rest.map fun v => v.category).sum + (13 * (names.length + 1) + 43) ≤ R.locals) (hRcells : cells + 1 ≤ R.cells) (hRslots : slots + 6 ≤ R.slots) (hlocks : meth.locks = false)
    (hx : ∀ t : State, s.vm.Alike t.vm → H.size ≤ t.heap.size → (∀ q : Nat, q < H.size → t.heap[q]? = H[q]?) → XC cls s t)
    (hf : ∀ z ∈ locs, free z.base) (hc : cells + 1 ≤ mc) (hs : slots + 6 ≤ ms) :
    W p l e R s m args below meth c H locs cells slots (vx_MQ below Qc XC args s mc ms free) (F0 m pc ls rest) := by
  intro T hT X
  have htr : e.platform.stackTraces = false := (show e.platform.stackTraces = l.stackTraces by rw [X.admits.platform]).trans hl
  have Y := vx_rebase X (R' := { frames := R.frames, locals := R.locals, cells := 1, slots := 6 }) (Nat.le_refl _) (Nat.le_refl _) hRcells hRslots
  obtain ⟨s', hA⟩ : ∃ z, z = (T.setVm s.vm).setFrames (.invoking m args :: below) := ⟨_, rfl⟩
  rw [← hA] at Y
  have hvm : s'.vm = s.vm := by rw [hA]; rfl
  have hhp : s'.heap = H := by rw [hA]; exact hT
  have hW0 : s.WarmedH s'.vm := by rw [hvm]; exact State.WarmedH.refl s
  have hat' : ∀ w ∈ vx_atS own ic cls names, w.before args s' = true := fun w hw => vx_ot_at hW0 hvm.symm (hgood w (List.mem_cons_of_mem _ (List.mem_cons_of_mem _ hw))) (hat w hw)
  have hk' : (Cond.classLink own ik cls).before args s' = true := vx_ot_at hW0 hvm.symm (hgood _ List.mem_cons_self) hk
  have hini' : (Cond.initialized cls).before args s' = true := vx_ot_at hW0 hvm.symm (hgood _ (List.mem_cons_of_mem _ List.mem_cons_self)) hini
  have hU' : vx_Zq Bundle.tN "UNASSIGNED_STACK" Bundle.steD A s' s'.heap := by rw [hhp]; exact vx_Zq.moved hW0.alike (hU.kept hS.2.1)
  have hN' : vx_Zq Bundle.tN "SUPPRESSED_SENTINEL" Bundle.listD A s' s'.heap := by rw [hhp]; exact vx_Zq.moved hW0.alike (hN.kept hS.2.1)
  have h : ∀ w ∈ Bundle.ownAtoms own ic cls names, w.before args s' = true := vx_own hat' (vx_isRefq hU'.1) (vx_isRefq hN'.1) hU'.2.word hN'.2.word
  have hown' : s'.vm.findClass own = some m.cls := by rw [hvm]; exact hown
  have hins : (Cond.instantiable cls 6).before args s' = true := h _ (by simp [Bundle.ownAtoms])
  obtain ⟨vm₁, cX, kX, hfX, hkX, -, -, X₁, st1⟩ := Y.newCold hexec (own := own) (C := cls) (index := ik) (n := 6) hown' hk' hins hini'
    (g := F0 m pc ls rest) rfl (by rw [hb]; exact d0) (Nat.le_refl _) (Nat.le_refl _)
  generalize hT1 : (T.setVm vm₁).pushCell { cls := cX, slots := kX.instanceTypes.map defaultValue, vm := .none } = T1 at X₁ st1
  have hcat : (Value.ref T.heap.size).category = 1 := rfl
  have hcellA : T1.heap[T.heap.size]? = some (freshCell cX kX) := by rw [← hT1]; exact State.heap_pushCell_size _ _
  have d3' : decode c.code (pc + 3) = .ok (.dup, 1) := by rw [hb]; exact d3
  have d4' : decode c.code (pc + 4) = .ok (.ldc is, 2) := by rw [hb]; exact d4
  have hstr' : vk_R own is text sa s' := vk_R.warm hW0 hstr
  obtain ⟨U, hsteps, hrun, hend, hW, hsame, ce, hce, hO⟩ := X₁.ctorThrowS hexec htr (own := own) (cls := cls) (names := names) (ic := ic) hown' hcls hnames h (fun x hx => nomatch hx) hfX hkX hcellA (by rw [hhp, hT]; exact Nat.le_refl _) (msg := .ref sa) rfl
    (g := { method := m, pc := pc + 6, locals := ls, stack := .ref sa :: .ref T.heap.size :: .ref T.heap.size :: rest, locked := none }) rfl hsize rfl rfl (rest := rest) rfl
    (by rw [hb]; exact d6) (by rw [hb]; exact d9) hout hRframes (by simp only [List.map_cons, List.sum_cons, hcat]; omega) hlocks
  obtain ⟨f1, f2⟩ := vx_frame hsame
  rw [hhp] at f1 f2
  have hWs : s.WarmedH U.vm := State.WarmedH.trans hW0 hW
  have hcl : s.vm.findClass cls = some ce.cls := by
    have h9 := hO.cls
    rw [hvm] at h9
    exact h9
  have hall : s.sameButNew ({ U with vm := s.vm } : State) locs mc ms := by
    subst hA
    obtain ⟨e1, e2⟩ := hsame
    rw [State.setFrames_setFrames] at e1
    have h2 : (T.setVm s.vm).sameButNew ({ U with vm := s.vm } : State) [] (0 + 1) (0 + 6) := ⟨e1, e2⟩
    have h3 := X.same.trans h2
    rw [List.append_nil] at h3
    exact h3.mono hc hs
  refine ⟨U, ?_, .threw T.heap.size, hrun, hend, Or.inr ⟨T.heap.size, rfl, cls, ce, locs, hx U hWs.alike f1 (fun q hq => f2 q hq (fun z hz => nomatch hz)), hce, hO.vm, hcl, hWs, hall, hf⟩⟩
  refine st1 _ ?_
  show Steps p.tables e below (T1.setTop { method := m, pc := pc + 3, locals := ls, stack := .ref T.heap.size :: rest, locked := none }) _
  jvm_step X₁.here [X₁.here.top, hexec, d3', Value.category]
  exact X₁.ldcString hexec (own := own) (text := text) (index := is) (a := sa) hown' hstr'.1 hstr'.2
    (g := { method := m, pc := pc + 4, locals := ls, stack := .ref T.heap.size :: .ref T.heap.size :: rest, locked := none }) rfl d4' _ hsteps
/-- 'throw new E("text")', the text by a wide index -/
theorem vx_throwSW {cc : ByteArray} {pc : Nat} (hexec : p.tables.exec = Jvm.exec) (hb : c.code = cc) (hl : l.stackTraces = false) {own cls text : String} {names : List String} {ik is ic mc ms sa : Nat} {A : Nat → Prop}
    (hown : s.vm.findClass own = some m.cls) (hcls : Bundle.fit cls = true) (hnames : ∀ n ∈ names, Bundle.fit n = true)
    (hk : (Cond.classLink own ik cls).before args s = true) (hini : (Cond.initialized cls).before args s = true) (hstr : vk_R own is text sa s) (hat : ∀ w ∈ vx_atS own ic cls names, w.before args s = true)
    (hgood : ∀ w ∈ Cond.classLink own ik cls :: Cond.initialized cls :: vx_atS own ic cls names, vx_ot w = true)
    (hU : vx_Zq Bundle.tN "UNASSIGNED_STACK" Bundle.steD A s s.heap) (hN : vx_Zq Bundle.tN "SUPPRESSED_SENTINEL" Bundle.listD A s s.heap) (hS : va_S A s.heap H locs) (hsize : ls.size = c.maxLocals)
    (d0 : decode cc pc = .ok (.new ik, 3)) (d3 : decode cc (pc + 3) = .ok (.dup, 1)) (d4 : decode cc (pc + 4) = .ok (.ldc_w is, 3)) (d7 : decode cc (pc + 7) = .ok (.invokespecial ic, 3)) (d10 : decode cc (pc + 10) = .ok (.athrow, 1))
    (hout : ∀ x ∈ c.exceptionTable.toList, covers x (pc + 10) = false)
    (hRframes : names.length + 3 < R.frames) (hRlocals : (rest.map fun v => v.category).sum + (13 * (names.length + 1) + 43) ≤ R.locals) (hRcells : cells + 1 ≤ R.cells) (hRslots : slots + 6 ≤ R.slots) (hlocks : meth.locks = false)
    (hx : ∀ t : State, s.vm.Alike t.vm → H.size ≤ t.heap.size → (∀ q : Nat, q < H.size → t.heap[q]? = H[q]?) → XC cls s t)
    (hf : ∀ z ∈ locs, free z.base) (hc : cells + 1 ≤ mc) (hs : slots + 6 ≤ ms) :
    W p l e R s m args below meth c H locs cells slots (vx_MQ below Qc XC args s mc ms free) (F0 m pc ls rest) := by
  intro T hT X
  have htr : e.platform.stackTraces = false := (show e.platform.stackTraces = l.stackTraces by rw [X.admits.platform]).trans hl
  have Y := vx_rebase X (R' := { frames := R.frames, locals := R.locals, cells := 1, slots := 6 }) (Nat.le_refl _) (Nat.le_refl _) hRcells hRslots
  obtain ⟨s', hA⟩ : ∃ z, z = (T.setVm s.vm).setFrames (.invoking m args :: below) := ⟨_, rfl⟩
  rw [← hA] at Y
  have hvm : s'.vm = s.vm := by rw [hA]; rfl
  have hhp : s'.heap = H := by rw [hA]; exact hT
  have hW0 : s.WarmedH s'.vm := by rw [hvm]; exact State.WarmedH.refl s
  have hat' : ∀ w ∈ vx_atS own ic cls names, w.before args s' = true := fun w hw => vx_ot_at hW0 hvm.symm (hgood w (List.mem_cons_of_mem _ (List.mem_cons_of_mem _ hw))) (hat w hw)
  have hk' : (Cond.classLink own ik cls).before args s' = true := vx_ot_at hW0 hvm.symm (hgood _ List.mem_cons_self) hk
  have hini' : (Cond.initialized cls).before args s' = true := vx_ot_at hW0 hvm.symm (hgood _ (List.mem_cons_of_mem _ List.mem_cons_self)) hini
  have hU' : vx_Zq Bundle.tN "UNASSIGNED_STACK" Bundle.steD A s' s'.heap := by rw [hhp]; exact vx_Zq.moved hW0.alike (hU.kept hS.2.1)
  have hN' : vx_Zq Bundle.tN "SUPPRESSED_SENTINEL" Bundle.listD A s' s'.heap := by rw [hhp]; exact vx_Zq.moved hW0.alike (hN.kept hS.2.1)
  have h : ∀ w ∈ Bundle.ownAtoms own ic cls names, w.before args s' = true := vx_own hat' (vx_isRefq hU'.1) (vx_isRefq hN'.1) hU'.2.word hN'.2.word
  have hown' : s'.vm.findClass own = some m.cls := by rw [hvm]; exact hown
  have hins : (Cond.instantiable cls 6).before args s' = true := h _ (by simp [Bundle.ownAtoms])
  obtain ⟨vm₁, cX, kX, hfX, hkX, -, -, X₁, st1⟩ := Y.newCold hexec (own := own) (C := cls) (index := ik) (n := 6) hown' hk' hins hini'
    (g := F0 m pc ls rest) rfl (by rw [hb]; exact d0) (Nat.le_refl _) (Nat.le_refl _)
  generalize hT1 : (T.setVm vm₁).pushCell { cls := cX, slots := kX.instanceTypes.map defaultValue, vm := .none } = T1 at X₁ st1
  have hcat : (Value.ref T.heap.size).category = 1 := rfl
  have hcellA : T1.heap[T.heap.size]? = some (freshCell cX kX) := by rw [← hT1]; exact State.heap_pushCell_size _ _
  have d3' : decode c.code (pc + 3) = .ok (.dup, 1) := by rw [hb]; exact d3
  have d4' : decode c.code (pc + 4) = .ok (.ldc_w is, 3) := by rw [hb]; exact d4
  have hstr' : vk_R own is text sa s' := vk_R.warm hW0 hstr
  obtain ⟨U, hsteps, hrun, hend, hW, hsame, ce, hce, hO⟩ := X₁.ctorThrowS hexec htr (own := own) (cls := cls) (names := names) (ic := ic) hown' hcls hnames h (fun x hx => nomatch hx) hfX hkX hcellA (by rw [hhp, hT]; exact Nat.le_refl _) (msg := .ref sa) rfl
    (g := { method := m, pc := pc + 7, locals := ls, stack := .ref sa :: .ref T.heap.size :: .ref T.heap.size :: rest, locked := none }) rfl hsize rfl rfl (rest := rest) rfl
    (by rw [hb]; exact d7) (by rw [hb]; exact d10) hout hRframes (by simp only [List.map_cons, List.sum_cons, hcat]; omega) hlocks
  obtain ⟨f1, f2⟩ := vx_frame hsame
  rw [hhp] at f1 f2
  have hWs : s.WarmedH U.vm := State.WarmedH.trans hW0 hW
  have hcl : s.vm.findClass cls = some ce.cls := by
    have h9 := hO.cls
    rw [hvm] at h9
    exact h9
  have hall : s.sameButNew ({ U with vm := s.vm } : State) locs mc ms := by
    subst hA
    obtain ⟨e1, e2⟩ := hsame
    rw [State.setFrames_setFrames] at e1
    have h2 : (T.setVm s.vm).sameButNew ({ U with vm := s.vm } : State) [] (0 + 1) (0 + 6) := ⟨e1, e2⟩
    have h3 := X.same.trans h2
    rw [List.append_nil] at h3
    exact h3.mono hc hs
  refine ⟨U, ?_, .threw T.heap.size, hrun, hend, Or.inr ⟨T.heap.size, rfl, cls, ce, locs, hx U hWs.alike f1 (fun q hq => f2 q hq (fun z hz => nomatch hz)), hce, hO.vm, hcl, hWs, hall, hf⟩⟩
  refine st1 _ ?_
  show Steps p.tables e below (T1.setTop { method := m, pc := pc + 3, locals := ls, stack := .ref T.heap.size :: rest, locked := none }) _
  jvm_step X₁.here [X₁.here.top, hexec, d3', Value.category]
  exact X₁.ldcStringW hexec (own := own) (text := text) (index := is) (a := sa) hown' hstr'.1 hstr'.2
    (g := { method := m, pc := pc + 4, locals := ls, stack := .ref T.heap.size :: .ref T.heap.size :: rest, locked := none }) rfl d4' _ hsteps
end Ends
section Bodies
variable {l : Launch}
theorem vx_ofW {y : MethodName} {ws ws' : List Cond} {rm : Room} {Pc : Array Value → State → Prop} {Qc : Array Value → State → Outcome → State → Prop} {XC : String → State → State → Prop} {mc ms : Nat} {free : Addr → Prop} {cc : ByteArray} {maxL : Nat} {ret : Option FieldType}
    (hy : plainName y.cls = true) (hw : ws = Cond.code y cc maxL ret :: ws')
    (body : ∀ p e s m args below meth c s₁, BodyLoose p l y (headSpec ws rm) cc maxL ret e s m args below meth c s₁ → c.maxLocals = maxL → (∀ x ∈ c.exceptionTable.toList, False) → Pc args s →
      W p l e (headSpec ws rm).room s m args below meth c s.heap [] 0 0 (vx_MQ below Qc XC args s mc ms free) (entryFrame m args maxL)) : vx_Met l y ws rm Pc Qc XC mc ms free := by
  refine MetFree.of_bodyS (code := cc) (maxLocals := maxL) (ret := ret) hy ?_ ?_
  · intro args s m h hn
    obtain ⟨meth, c, h1, h2, h3, h4, h5, h6, -, -⟩ := Cond.code_spec hn (atoms_spec (ws := ws) h _ (by rw [hw]; exact List.mem_cons_self))
    exact ⟨meth, c, h1, h2, h3, h4, h5, h6⟩
  · intro p e s m args below meth c s₁ B hml hP _
    have hh0 : s₁.heap = s.heap := by rw [B.state]; rfl
    have ht : ∀ x ∈ c.exceptionTable.toList, False := by
      obtain ⟨meth9, c9, h1, h2, -, -, -, -, h7, -⟩ := Cond.code_spec B.named (atoms_spec (ws := ws) B.pre _ (by rw [hw]; exact List.mem_cons_self))
      cases Option.some.inj (h1.symm.trans B.method)
      cases Option.some.inj (h2.symm.trans (Stand.of_body B).code)
      intro x hx
      rw [Array.isEmpty_iff.mp h7] at hx
      cases hx
    obtain ⟨t, a1, o, b1, b2, b3⟩ := body p e s m args below meth c s₁ B hml ht hP s₁ hh0 (Stand.of_body B)
    exact ⟨t, o, a1, b1, b2, b3⟩
/-- the table of a body with handlers -/
theorem vx_table {p : Program} {x y : MethodName} {S : Spec} {cc bytes : ByteArray} {maxL maxL' : Nat} {ret ret' : Option FieldType} {e : Env} {s s₁ : State} {m : MethodId} {args : Array Value} {below : List Frame} {meth : Method} {c : Code} {hh : List (Nat × Nat × Nat × Nat)}
    (B : BodyLoose p l y S cc maxL ret e s m args below meth c s₁) (h : (Cond.codeWith y bytes maxL' ret' hh).before args s = true) : c.exceptionTable.toList = tableOf hh := by
  obtain ⟨m9, meth9, c9, hn9, h1, h2, -, -, h6, -⟩ := Cond.codeWith_spec h
  cases Option.some.inj (hn9.symm.trans B.named)
  cases Option.some.inj (h1.symm.trans B.method)
  cases Option.some.inj (h2.symm.trans (Stand.of_body B).code)
  rw [← h6, table_eq]
end Bodies
end VXA
/-! ===== END ===== -/
/-! ===== BEGIN a static call of a method with an exception table ===== -/
section VXS
variable {p : Program} {l : Launch} {e : Env} {R : Room} {s : State} {m : MethodId} {args : Array Value} {below : List Frame} {meth : Method} {c : Code} {T : State} {H : Heap} {locs : List Loc} {cells slots : Nat}
abbrev vx_CSW (R : Room) (s : State) (args : Array Value) (own : String) (index : Nat) (y : MethodName) (bytes : ByteArray) (maxL : Nat) (ret : Option FieldType) (hh : List (Nat × Nat × Nat × Nat)) (ws : List Cond) (rm : Room) (mc ms n : Nat) : Prop :=
  (rm.cells = mc ∧ rm.slots = ms ∧ rm.frames + 1 ≤ R.frames ∧ 8 + (maxL + 11) + rm.locals ≤ R.locals ∧ (∀ w ∈ ws, ∀ (a' : Array Value) (U : State), s.WarmedH U.vm → w.before a' U = true) ∧ Cond.codeWith y bytes maxL ret hh ∈ ws) ∧
  (Cond.codeWith y bytes maxL ret hh).before args s = true ∧ (Cond.initialized y.cls).before args s = true ∧ (y.cls ≠ "java/lang/invoke/MethodHandle" ∧ y.cls ≠ "java/lang/invoke/VarHandle") ∧
  (∀ sig, parseMethodDescriptor y.desc = some sig → n = sig.parameters.length) ∧ (Cond.methodLink own index y).before args s = true ∧ (Cond.static y).before args s = true
theorem vx_cwSW {own : String} {index maxL mc ms : Nat} {y : MethodName} {bytes : ByteArray} {ret : Option FieldType} {hh : List (Nat × Nat × Nat × Nat)} {Ts ws ws' : List Cond} {rm : Room} (n : Nat) (ht : ∀ w ∈ Ts, w.before args s = true) (hT : GoodIn Ts (va_wsS own index y ws)) (hw : ws = Cond.codeWith y bytes maxL ret hh :: ws') (hrc : rm.cells = mc) (hrs : rm.slots = ms)
    (hd : y.cls ≠ "java/lang/invoke/MethodHandle" ∧ y.cls ≠ "java/lang/invoke/VarHandle" ∧ (parseMethodDescriptor y.desc).map (fun d => d.parameters.length) = some n) (hR : rm.frames + 1 ≤ R.frames ∧ 8 + (maxL + 11) + rm.locals ≤ R.locals) :
    vx_CSW R s args own index y bytes maxL ret hh ws rm mc ms n := by
  have ok : ∀ w ∈ va_wsS own index y ws, w.before args s = true := fun w h => ht w (hT w h).1
  have hG : GoodIn Ts ws := fun w h => hT w (by unfold va_wsS; exact List.mem_append_right _ h)
  have hc : Cond.codeWith y bytes maxL ret hh ∈ ws := by rw [hw]; exact List.mem_cons_self
  refine ⟨⟨hrc, hrs, hR.1, hR.2, pay_in ht hG, hc⟩, ht _ (hG _ hc).1, ok _ (by simp [va_wsS]), ⟨hd.1, hd.2.1⟩, fun sig h => ?_, ok _ (by simp [va_wsS]), ok _ (by simp [va_wsS])⟩
  have h2 := hd.2.2
  rw [h] at h2
  exact (Option.some.inj h2).symm
theorem vx_callSW (X : Stand p l e R s m args below meth c T locs cells slots) (hexec : p.tables.exec = Jvm.exec) {own : String} {index : Nat} {y : MethodName} {bytes : ByteArray} {maxL : Nat} {ret : Option FieldType} {hh : List (Nat × Nat × Nat × Nat)}
    (hown : s.vm.findClass own = some m.cls) (hlink : (Cond.methodLink own index y).before args s = true) (hstat : (Cond.static y).before args s = true) (hinit : (Cond.initialized y.cls).before args s = true)
    (hcode : (Cond.codeWith y bytes maxL ret hh).before args s = true) (hy : y.cls ≠ "java/lang/invoke/MethodHandle" ∧ y.cls ≠ "java/lang/invoke/VarHandle")
    {W9 : Nat} {Pre : Pt → Array Value → Prop} {Post : Pt → Array Value → Option Value → Pt → Prop} (hK : Back l R p e below s args y 3 W9 Pre Post)
    {g : JFrame} (hg : g.method = m) (hsize : g.locals.size = c.maxLocals) {argsL rest : List Value} (hlen : ∀ sig, parseMethodDescriptor y.desc = some sig → argsL.length = sig.parameters.length)
    (hstack : g.stack = argsL.reverse ++ rest) (hW : 2 * g.monitorRoom + (rest.map fun v => v.category).sum ≤ W9) (hdg : decode c.code g.pc = .ok (.invokestatic index, 3))
    (hpre : ∀ vm₁, s.WarmedH vm₁ → Pre ⟨T.setVm vm₁, locs, cells, slots⟩ argsL.toArray) :
    ∃ (v : Option Value) (vm₁ : Vm) (B : Pt), s.WarmedH vm₁ ∧ Stand p l e R s m args below meth c B.U B.locs B.cells B.slots ∧ Post ⟨T.setVm vm₁, locs, cells, slots⟩ argsL.toArray v B ∧
      ∀ target, Steps p.tables e below (B.U.setTop { g with pc := g.pc + 3, stack := v.toList ++ rest }) target → Steps p.tables e below (T.setTop g) target := by
  obtain ⟨mk, methM, cM, hnamed, hmethM, -, -, -, -, -, -, hsigM⟩ := Cond.codeWith_spec hcode
  have hstatic : methM.isStatic = true := Cond.static_spec hnamed hmethM hstat
  obtain ⟨kP, hkP, -⟩ := className_of_methodNamed hnamed
  have hinitP : kP.init = .initialized := Cond.initialized_spec (findClass_of_methodNamed hnamed) hkP hinit
  obtain ⟨vm₁, X₁, hstep₁⟩ := X.invokestatic hexec hown hlink hnamed hmethM hstatic hkP hinitP hy (g := g) hg (argsL := argsL) (rest := rest) (hlen _ hsigM) hstack hdg
  obtain ⟨v, B, X', hpost, hsteps⟩ := hK m meth c ⟨T.setVm vm₁, locs, cells, slots⟩ { g with stack := rest } (.invokestatic index) mk argsL.toArray X₁ hg hsize hdg hW (X₁.named hnamed) (hpre vm₁ X₁.warmed)
  exact ⟨v, vm₁, B, X₁.warmed, X', hpost, fun target h => hstep₁ _ fun acts => by rw [doInvoke_state]; exact hsteps.trans h⟩
theorem vx_runSW {y : MethodName} {bytes cc : ByteArray} {maxL nL mc ms n index : Nat} {ret : Option FieldType} {hh : List (Nat × Nat × Nat × Nat)} {ws : List Cond} {rm : Room} {Pc : Array Value → State → Prop} {Qc : Array Value → State → Outcome → State → Prop} {free : Addr → Prop} {Ts : List Cond} {own : String} {As rest : List Value} {g : JFrame}
    (S : CallFix p m c cc nL s args Ts own) (hM : Met l y ws rm Pc Qc mc ms free) (cw : vx_CSW R s args own index y bytes maxL ret hh ws rm mc ms n) (hp : PreS s H Pc As)
    (hg : g.method = m) (hn : As.length = n) (hsize : g.locals.size = nL) (hstack : g.stack = As.reverse ++ rest) (hW : 2 * g.monitorRoom + (rest.map fun v => v.category).sum ≤ 8) (hdg : decode cc g.pc = .ok (.invokestatic index, 3)) (hf : cells + mc ≤ R.cells ∧ slots + ms ≤ R.slots) :
    va_Run p l e R s m args below meth c H locs cells slots mc ms g rest (Qc As.toArray) (free) := by
  obtain ⟨⟨hrc, hrs, hfr, hlo, hws, hcw⟩, hcode, hini, hy, hlen, hl, hstt⟩ := cw
  have hK : Back l R p e below s args y 3 8 (PreOf R mc ms Pc) (PostOf Qc mc ms free) := va_backW (hh := hh) (bytes := bytes) (maxL := maxL) (ret := ret) hM hp.1 hrc hrs hfr hlo hws hcw (fun a' U hW => word_at hW (Or.inl (by first | rfl | simp [Cond.onTables, Cond.keeps, Cond.steady])) hini)
  obtain ⟨hx, hb, hml, ho, -⟩ := S
  intro T hT X
  obtain ⟨v, vm₁, ⟨U', l2, c2, s2⟩, hW₁, X', ⟨g', mk, t, L, e1, e2, hq, h1, hL, h2, h3⟩, st⟩ := vx_callSW X hx (hh := hh) (bytes := bytes) (maxL := maxL) (ret := ret) ho hl hstt hini hcode hy hK hg (hsize.trans hml.symm) (argsL := As) (rest := rest) (fun sig h => hn.trans (hlen sig h)) hstack hW (by rw [hb]; exact hdg)
    (fun vm₁ hW₁ => ⟨hf.1, hf.2, hp.2 (T.setVm vm₁) hT hW₁⟩)
  dsimp only [Pt.U, Pt.locs, Pt.cells, Pt.slots] at X' e1 e2 h1 h2 h3 st
  subst h1; subst h2; subst h3
  exact ⟨v, (T.setVm vm₁).calling g' mk As.toArray, t, U', L, hT, X', hL, e1, e2, hq, st⟩
/-- not caught here, past rows that name other classes: it goes on to the caller -/
theorem vx_outP {p : Program} {l : Launch} {e : Env} {R : Room} {s : State} {m : MethodId} {args : Array Value} {below : List Frame} {meth : Method} {c : Code} {H : Heap} {locs : List Loc} {cells slots : Nat} {free : Addr → Prop} {ls : Array Slot} {rest : List Value} {Qc : Array Value → State → Outcome → State → Prop} {XC : String → State → State → Prop}
    {pc : Nat} {own E : String} {ce : Cell} {q : Addr} {mc ms : Nat} (hown : s.vm.findClass own = some m.cls) (hlocks : meth.locks = false)
    (hpass : ∀ z ∈ c.exceptionTable.toList, covers z pc = false ∨ (z.catchType ≠ 0 ∧ ∃ nm : String, (Cond.classLink own z.catchType nm).before args s = true ∧ va_Nc E nm s)) (hcell : H[q]? = some ce) (hv : ce.vm = .none) (hcl : s.vm.findClass E = some ce.cls)
    (hx : ∀ t : State, t.heap = H → s.vm.Alike t.vm → XC E s t) (hf : ∀ z ∈ locs, free z.base) (hc : cells ≤ mc) (hs : slots ≤ ms) :
    vx_W p l e R s m args below meth c H locs cells slots (vx_MQ below Qc XC args s mc ms free) (F0 m pc ls rest) q := by
  intro T hT X
  have hpl : e.platform.magicAccessors = ({} : Platform).magicAccessors := by rw [X.admits.platform]
  obtain ⟨vm', hW', X', st⟩ := X.outThrough hlocks q (g := F0 m pc ls rest) rfl rfl rfl (cell := ce) (by rw [hT]; exact hcell) (by rw [hv]; rfl)
    (by obtain ⟨k9, h9, -⟩ := Vm.findClass_spec hcl; exact ⟨k9, h9⟩) (fun z hz => by
      rcases hpass z hz with h | ⟨hz0, nm, hl1, hn1⟩
      · exact Or.inl h
      · obtain ⟨c6, hc6, hcl6⟩ := Cond.classLink_spec hown hl1 e.platform hpl
        obtain ⟨a8, b8, h1, h2, h3⟩ := hn1
        cases Option.some.inj (h1.symm.trans hcl)
        cases Option.some.inj (h2.symm.trans hc6)
        exact Or.inr ⟨hz0, _, hcl6, h3⟩)
  obtain ⟨g₀, hfr⟩ := X'.frames_eq
  have hcell9 : ((T.setVm vm').setFrames (.throwing q :: below)).heap[q]? = some ce := by
    show T.heap[q]? = some ce
    rw [hT]; exact hcell
  have hend : Ended ((T.setVm vm').setFrames (.throwing q :: below)) below (.threw q) := State.frames_setFrames _ (State.cur_lt_of_frames hfr)
  refine ⟨(T.setVm vm').setFrames (.throwing q :: below), ?_, .threw q, X'.here.running, hend, Or.inr ⟨q, rfl, E, ce, locs, hx _ hT (X'.ends _).1.alike, hcell9, hv, hcl, (X'.ends _).1, (X'.ends _).2.mono hc hs, hf⟩⟩
  rw [X.pushThrowing_eq]
  exact st
/-- a thing of a world lies in the heap -/
theorem vx_lt {D : va_G} {cl : List vw_C} {ws : va_W} {H1 : Heap} (h : va_P D cl ws H1) {k : Nat} {q : Nat × va_E} (hk : ws[k]? = some q) : q.1 < H1.size := (h k q hk).lt
end VXS
/-! ===== END ===== -/
/-! ===== BEGIN methods with a table of their own: called by a name, returning or throwing ===== -/
section VXH
/-! vx_backW, vx_callVX, vx_callSX, vx_callVW, vx_runVW, vx_runVX, vx_runSX, vx_ofWH follow the same proofs as their sisters above (Free/Laws.lean, Shelf42/LK1.lean); vx_outP calls Shelf42/NT130.lean (outThrough). -/
section
variable {l : Launch} {R : Room} {p : Program} {e : Env} {below : List Frame} {s : State} {sargs : Array Value} {y : MethodName} {len W9 : Nat}
theorem vx_backW {ws : List Cond} {rm : Room} {Pc : Array Value → State → Prop} {Qc : Array Value → State → Outcome → State → Prop} {XC : String → State → State → Prop} {mc ms : Nat} {free : Addr → Prop} {bytes : ByteArray} {maxL : Nat} {ret : Option FieldType} {hh : List (Nat × Nat × Nat × Nat)}
    (hM : vx_Met l y ws rm Pc Qc XC mc ms free) (hblind : FrameBlind Pc) (hrc : rm.cells = mc) (hrs : rm.slots = ms)
    (hframes : rm.frames + 1 ≤ R.frames) (hlocals : W9 + (maxL + 11) + rm.locals ≤ R.locals)
    (hws : ∀ w ∈ ws, ∀ a' U, s.WarmedH U.vm → w.before a' U = true) (hcode : Cond.codeWith y bytes maxL ret hh ∈ ws) (hinit : ∀ a' U, s.WarmedH U.vm → (Cond.initialized y.cls).before a' U = true) :
    vx_Back l R p e below s sargs y len W9 (PreOf R mc ms Pc) (PostOf Qc mc ms free) (vx_Post XC mc ms free) := by
  intro m meth c A g ig mk a X hg hsize hdg hW hn hp
  have h1 : (headSpec ws rm).pre.before a A.U = true := atoms_intro fun w hw => hws w hw _ _ X.warmed
  have h2 : (Cond.codeWith y bytes maxL ret hh).before a A.U = true := hws _ hcode _ _ X.warmed
  have h3 : (Cond.initialized y.cls).before a A.U = true := hinit _ _ X.warmed
  have h4 : A.cells + (headSpec ws rm).room.cells ≤ R.cells := by rw [show (headSpec ws rm).room.cells = mc from hrc]; exact hp.1
  have h5 : A.slots + (headSpec ws rm).room.slots ≤ R.slots := by rw [show (headSpec ws rm).room.slots = ms from hrs]; exact hp.2.1
  have hPc : Pc a (A.U.calling g mk a) := hblind _ _ _ _ hp.2.2
  obtain ⟨U, Ls, c0, s0⟩ := A
  dsimp only [Pt.U, Pt.locs, Pt.cells, Pt.slots] at h1 h2 h3 h4 h5 X hn hPc ⊢
  obtain ⟨m9, methY, cY, hn9, hmY, hcY, -, hlY, -⟩ := Cond.codeWith_spec h2
  cases Option.some.inj (hn9.symm.trans hn)
  obtain ⟨kY, hkY, -⟩ := className_of_methodNamed hn
  have hinitY : kY.init = .initialized := Cond.initialized_spec (findClass_of_methodNamed hn) hkY h3
  have h : At U g.method c below := by rw [hg]; exact X.here
  have hlocals9 : W9 + (maxL + 11) + (headSpec ws rm).room.locals ≤ R.locals := hlocals
  have happ : (headSpec ws rm).appliesLoose y e.platform (U.calling g mk a) = true :=
    Spec.appliesLoose_calling (g := g) h hdg hn hkY hinitY
      (X.room_calling (g := g) (R' := (headSpec ws rm).room) hsize hmY hcY hframes (by rw [hlY]; omega) h4 h5) h1
  obtain ⟨mid, hmid⟩ := h.above
  have hfr : (U.setTop g).frames = (.java g :: mid) ++ below := by rw [State.frames_setTop' g h.top, hmid]; rfl
  obtain ⟨o, s₂, hsteps, -, hend, hq⟩ := Steps.callFree hM p X.admits X.cas X.clock (acts := []) hfr happ hPc trivial
  have hq' : vx_Q Qc XC mc ms free a (U.calling g mk a) o s₂ := hq
  rw [State.frames_setTop' g h.top] at hend
  obtain ⟨g₀, hg0⟩ := Option.isSome_iff_exists.mp h.top
  obtain ⟨r, hr⟩ := State.topJava?_eq_some.mp hg0
  have hr' : (({ U with heap := s₂.heap, slotsUsed := s₂.slotsUsed } : State).setVm s₂.vm).frames = .java g₀ :: r := hr
  rcases hq' with ⟨hqc, L, hfe, hL⟩ | ⟨q, rfl, E, ce, L, hx, hce, hcv, hcl, hW₂, hsm, hL⟩
  · obtain ⟨⟨v, rfl⟩, hW₂, e2, q2, q3, q4, q5, q6⟩ := id hfe
    have e3 : s₂ = ({ (U.calling g mk a).setFrames s₂.frames with heap := s₂.heap, slotsUsed := s₂.slotsUsed } : State).setVm s₂.vm := by
      have : s₂ = ({ s₂ with vm := (U.calling g mk a).vm } : State).setVm s₂.vm := rfl
      rw [e2] at this
      exact this
    obtain ⟨c₂, i₂, len₂, hc₂, hd₂, hf₂⟩ := hend
    have hW' : U.WarmedH s₂.vm := hW₂
    have hcc : c₂ = c := by
      have h1 : s₂.code? g.method = U.code? g.method := by
        rw [State.code?_eq, State.code?_eq, hW'.alike.method?]
      exact Option.some.inj (hc₂.symm.trans (h1.trans h.code))
    subst hcc
    have hlen : len₂ = len := by rw [hdg] at hd₂; cases hd₂; rfl
    subst hlen
    have hs₂ : s₂ = (({ U with heap := s₂.heap, slotsUsed := s₂.slotsUsed } : State).setVm s₂.vm).setTop { g with pc := g.pc + len₂, stack := v.toList ++ g.stack } := by
      refine e3.trans ?_
      rw [hf₂, State.calling_eq h.top, State.setFrames_setFrames, State.setTop_of_frames _ hr', hr]
      rfl
    have hsame : U.sameButNew ({ U with heap := s₂.heap, slotsUsed := s₂.slotsUsed } : State) L mc ms := by
      refine ⟨?_, q2, q3, q4, q5, q6⟩
      obtain ⟨t, ht, -⟩ := State.frames_cons hr
      show ({ U with heap := s₂.heap, slotsUsed := s₂.slotsUsed } : State) = { U.setFrames U.frames with heap := s₂.heap, slotsUsed := s₂.slotsUsed }
      rw [State.setFrames_self ht]
    subst hg
    refine Or.inl ⟨v, ⟨(({ U with heap := s₂.heap, slotsUsed := s₂.slotsUsed } : State).setVm s₂.vm), Ls ++ L, c0 + mc, s0 + ms⟩,
      ⟨X.admits, X.cas, X.clock, X.frames, X.room, X.hears, X.method, X.code, (X.here.setHeapUsed s₂.heap s₂.slotsUsed).setVm hW'.alike, X.tail, State.WarmedH.trans X.warmed hW', X.limits, X.bytes, X.same.trans (hsame.setVm s.vm)⟩,
      ⟨g, mk, s₂, L, rfl, rfl, hqc, rfl, hL, rfl, rfl⟩, ?_⟩
    show Steps p.tables e below _ ((({ U with heap := s₂.heap, slotsUsed := s₂.slotsUsed } : State).setVm s₂.vm).setTop { g with pc := g.pc + len₂, stack := v.toList ++ g.stack })
    rw [← hs₂]
    exact hsteps
  · obtain ⟨e2, q2, q3, q4, q5, q6⟩ := id hsm
    have e3 : s₂ = ({ (U.calling g mk a).setFrames s₂.frames with heap := s₂.heap, slotsUsed := s₂.slotsUsed } : State).setVm s₂.vm := by
      have : s₂ = ({ s₂ with vm := (U.calling g mk a).vm } : State).setVm s₂.vm := rfl
      rw [e2] at this
      exact this
    have hf₂ : s₂.frames = .throwing q :: .java g :: U.frames.tail := hend
    have hW' : U.WarmedH s₂.vm := hW₂
    have hs₂ : s₂ = ((({ U with heap := s₂.heap, slotsUsed := s₂.slotsUsed } : State).setVm s₂.vm).setTop g).pushFrame (.throwing q) := by
      refine e3.trans ?_
      rw [hf₂, State.calling_eq h.top, State.setFrames_setFrames, State.pushFrame, State.frames_setTop _ hr', State.setTop_of_frames _ hr', State.setFrames_setFrames, hr]
      rfl
    have hsame : U.sameButNew ({ U with heap := s₂.heap, slotsUsed := s₂.slotsUsed } : State) L mc ms := by
      refine ⟨?_, q2, q3, q4, q5, q6⟩
      obtain ⟨t, ht, -⟩ := State.frames_cons hr
      show ({ U with heap := s₂.heap, slotsUsed := s₂.slotsUsed } : State) = { U.setFrames U.frames with heap := s₂.heap, slotsUsed := s₂.slotsUsed }
      rw [State.setFrames_self ht]
    subst hg
    refine Or.inr ⟨q, ⟨(({ U with heap := s₂.heap, slotsUsed := s₂.slotsUsed } : State).setVm s₂.vm), Ls ++ L, c0 + mc, s0 + ms⟩,
      ⟨X.admits, X.cas, X.clock, X.frames, X.room, X.hears, X.method, X.code, (X.here.setHeapUsed s₂.heap s₂.slotsUsed).setVm hW'.alike, X.tail, State.WarmedH.trans X.warmed hW', X.limits, X.bytes, X.same.trans (hsame.setVm s.vm)⟩,
      ⟨g, mk, s₂, L, E, ce, rfl, rfl, hx, hce, hcv, hcl, rfl, hL, rfl, rfl⟩, ?_⟩
    show Steps p.tables e below _ (((({ U with heap := s₂.heap, slotsUsed := s₂.slotsUsed } : State).setVm s₂.vm).setTop g).pushFrame (.throwing q))
    rw [← hs₂]
    exact hsteps
end
variable {p : Program} {l : Launch} {e : Env} {R : Room} {s : State} {m : MethodId} {args : Array Value} {below : List Frame} {meth : Method} {c : Code} {T : State} {H : Heap} {locs : List Loc} {cells slots : Nat}
theorem vx_callVX (X : Stand p l e R s m args below meth c T locs cells slots) (hexec : p.tables.exec = Jvm.exec) {own C : String} {index : Nat} {y : MethodName} {bytes : ByteArray} {maxL : Nat} {ret : Option FieldType} {hh : List (Nat × Nat × Nat × Nat)}
    (hown : s.vm.findClass own = some m.cls) (hlink : (Cond.methodLink own index y).before args s = true) (hinst : (Cond.instanceMethod y).before args s = true) (hsel : (Cond.selects C y y).before args s = true)
    (hcode : (Cond.codeWith y bytes maxL ret hh).before args s = true) (hy : y.cls ≠ "java/lang/invoke/MethodHandle" ∧ y.cls ≠ "java/lang/invoke/VarHandle")
    {W9 : Nat} {Pre : Pt → Array Value → Prop} {Post : Pt → Array Value → Option Value → Pt → Prop} {PostX : Pt → Array Value → Addr → Pt → Prop} (hK : vx_Back l R p e below s args y 3 W9 Pre Post PostX)
    {b : Addr} {cellB : Cell} (hcell : T.heap[b]? = some cellB) (hobj : cellB.vm.isStatics = false) (hcls : s.vm.findClass C = some cellB.cls)
    {g : JFrame} (hg : g.method = m) (hsize : g.locals.size = c.maxLocals) {argsL rest : List Value} (hlen : ∀ sig, parseMethodDescriptor y.desc = some sig → argsL.length = sig.parameters.length)
    (hstack : g.stack = argsL.reverse ++ .ref b :: rest) (hW : 2 * g.monitorRoom + (rest.map fun v => v.category).sum ≤ W9) (hdg : decode c.code g.pc = .ok (.invokevirtual index, 3))
    (hpre : ∀ vm₁, s.WarmedH vm₁ → Pre ⟨T.setVm vm₁, locs, cells, slots⟩ (Value.ref b :: argsL).toArray) :
    (∃ (v : Option Value) (vm₁ : Vm) (B : Pt), s.WarmedH vm₁ ∧ Stand p l e R s m args below meth c B.U B.locs B.cells B.slots ∧ Post ⟨T.setVm vm₁, locs, cells, slots⟩ (Value.ref b :: argsL).toArray v B ∧
      ∀ target, Steps p.tables e below (B.U.setTop { g with pc := g.pc + 3, stack := v.toList ++ rest }) target → Steps p.tables e below (T.setTop g) target) ∨
    (∃ (q : Addr) (vm₁ : Vm) (B : Pt), s.WarmedH vm₁ ∧ Stand p l e R s m args below meth c B.U B.locs B.cells B.slots ∧ PostX ⟨T.setVm vm₁, locs, cells, slots⟩ (Value.ref b :: argsL).toArray q B ∧
      Steps p.tables e below (T.setTop g) ((B.U.setTop { g with stack := rest }).pushFrame (.throwing q))) := by
  obtain ⟨mk, methM, hnamed, hmethM, hstM, habM⟩ := Cond.instanceMethod_spec hinst
  obtain ⟨m8, methM', cM, hn8, hmethM', -, -, -, -, -, -, hsigM⟩ := Cond.codeWith_spec hcode
  cases Option.some.inj (hn8.symm.trans hnamed)
  cases hmethM.symm.trans hmethM'
  obtain ⟨c2, r2, m2, q1, q2, q3, q4, kP, hkP, hkPi⟩ := Cond.selects_spec hsel
  cases hcls.symm.trans q1
  cases (State.methodFound?_of_named hnamed hy).symm.trans q2
  cases hnamed.symm.trans q3
  have hselP : selectMethod e.platform s.vm cellB.cls mk = .method mk := by rw [Launch.admits_selectMethod X.admits]; exact q4
  obtain ⟨vm₁, X₁, hstep₁⟩ := X.invokevirtual hexec hown hlink hnamed hmethM hstM hkP hkPi hy (a := b) (cell := cellB) hcell
    (fun z h => by rw [h] at hobj; cases hobj) hselP hmethM habM hkP hkPi (g := g) hg (argsL := argsL) (rest := rest) (hlen _ hsigM) hstack hdg
  rcases hK m meth c ⟨T.setVm vm₁, locs, cells, slots⟩ { g with stack := rest } (.invokevirtual index) mk (Value.ref b :: argsL).toArray X₁ hg hsize hdg hW (X₁.named hnamed) (hpre vm₁ X₁.warmed) with ⟨v, B, X', hpost, hsteps⟩ | ⟨q, B, X', hpost, hsteps⟩
  · exact Or.inl ⟨v, vm₁, B, X₁.warmed, X', hpost, fun target h => hstep₁ _ fun acts => by rw [doInvoke_state]; exact hsteps.trans h⟩
  · exact Or.inr ⟨q, vm₁, B, X₁.warmed, X', hpost, hstep₁ _ fun acts => by rw [doInvoke_state]; exact hsteps⟩
theorem vx_callSX (X : Stand p l e R s m args below meth c T locs cells slots) (hexec : p.tables.exec = Jvm.exec) {own : String} {index : Nat} {y : MethodName} {bytes : ByteArray} {maxL : Nat} {ret : Option FieldType} {hh : List (Nat × Nat × Nat × Nat)}
    (hown : s.vm.findClass own = some m.cls) (hlink : (Cond.methodLink own index y).before args s = true) (hstat : (Cond.static y).before args s = true) (hinit : (Cond.initialized y.cls).before args s = true)
    (hcode : (Cond.codeWith y bytes maxL ret hh).before args s = true) (hy : y.cls ≠ "java/lang/invoke/MethodHandle" ∧ y.cls ≠ "java/lang/invoke/VarHandle")
    {W9 : Nat} {Pre : Pt → Array Value → Prop} {Post : Pt → Array Value → Option Value → Pt → Prop} {PostX : Pt → Array Value → Addr → Pt → Prop} (hK : vx_Back l R p e below s args y 3 W9 Pre Post PostX)
    {g : JFrame} (hg : g.method = m) (hsize : g.locals.size = c.maxLocals) {argsL rest : List Value} (hlen : ∀ sig, parseMethodDescriptor y.desc = some sig → argsL.length = sig.parameters.length)
    (hstack : g.stack = argsL.reverse ++ rest) (hW : 2 * g.monitorRoom + (rest.map fun v => v.category).sum ≤ W9) (hdg : decode c.code g.pc = .ok (.invokestatic index, 3))
    (hpre : ∀ vm₁, s.WarmedH vm₁ → Pre ⟨T.setVm vm₁, locs, cells, slots⟩ argsL.toArray) :
    (∃ (v : Option Value) (vm₁ : Vm) (B : Pt), s.WarmedH vm₁ ∧ Stand p l e R s m args below meth c B.U B.locs B.cells B.slots ∧ Post ⟨T.setVm vm₁, locs, cells, slots⟩ argsL.toArray v B ∧
      ∀ target, Steps p.tables e below (B.U.setTop { g with pc := g.pc + 3, stack := v.toList ++ rest }) target → Steps p.tables e below (T.setTop g) target) ∨
    (∃ (q : Addr) (vm₁ : Vm) (B : Pt), s.WarmedH vm₁ ∧ Stand p l e R s m args below meth c B.U B.locs B.cells B.slots ∧ PostX ⟨T.setVm vm₁, locs, cells, slots⟩ argsL.toArray q B ∧
      Steps p.tables e below (T.setTop g) ((B.U.setTop { g with stack := rest }).pushFrame (.throwing q))) := by
  obtain ⟨mk, methM, cM, hnamed, hmethM, -, -, -, -, -, -, hsigM⟩ := Cond.codeWith_spec hcode
  have hstatic : methM.isStatic = true := Cond.static_spec hnamed hmethM hstat
  obtain ⟨kP, hkP, -⟩ := className_of_methodNamed hnamed
  have hinitP : kP.init = .initialized := Cond.initialized_spec (findClass_of_methodNamed hnamed) hkP hinit
  obtain ⟨vm₁, X₁, hstep₁⟩ := X.invokestatic hexec hown hlink hnamed hmethM hstatic hkP hinitP hy (g := g) hg (argsL := argsL) (rest := rest) (hlen _ hsigM) hstack hdg
  rcases hK m meth c ⟨T.setVm vm₁, locs, cells, slots⟩ { g with stack := rest } (.invokestatic index) mk argsL.toArray X₁ hg hsize hdg hW (X₁.named hnamed) (hpre vm₁ X₁.warmed) with ⟨v, B, X', hpost, hsteps⟩ | ⟨q, B, X', hpost, hsteps⟩
  · exact Or.inl ⟨v, vm₁, B, X₁.warmed, X', hpost, fun target h => hstep₁ _ fun acts => by rw [doInvoke_state]; exact hsteps.trans h⟩
  · exact Or.inr ⟨q, vm₁, B, X₁.warmed, X', hpost, hstep₁ _ fun acts => by rw [doInvoke_state]; exact hsteps⟩
theorem vx_callVW (X : Stand p l e R s m args below meth c T locs cells slots) (hexec : p.tables.exec = Jvm.exec) {own C : String} {index : Nat} {y : MethodName} {bytes : ByteArray} {maxL : Nat} {ret : Option FieldType} {hh : List (Nat × Nat × Nat × Nat)}
    (hown : s.vm.findClass own = some m.cls) (hlink : (Cond.methodLink own index y).before args s = true) (hinst : (Cond.instanceMethod y).before args s = true) (hsel : (Cond.selects C y y).before args s = true)
    (hcode : (Cond.codeWith y bytes maxL ret hh).before args s = true) (hy : y.cls ≠ "java/lang/invoke/MethodHandle" ∧ y.cls ≠ "java/lang/invoke/VarHandle")
    {W9 : Nat} {Pre : Pt → Array Value → Prop} {Post : Pt → Array Value → Option Value → Pt → Prop} (hK : Back l R p e below s args y 3 W9 Pre Post)
    {b : Addr} {cellB : Cell} (hcell : T.heap[b]? = some cellB) (hobj : cellB.vm.isStatics = false) (hcls : s.vm.findClass C = some cellB.cls)
    {g : JFrame} (hg : g.method = m) (hsize : g.locals.size = c.maxLocals) {argsL rest : List Value} (hlen : ∀ sig, parseMethodDescriptor y.desc = some sig → argsL.length = sig.parameters.length)
    (hstack : g.stack = argsL.reverse ++ .ref b :: rest) (hW : 2 * g.monitorRoom + (rest.map fun v => v.category).sum ≤ W9) (hdg : decode c.code g.pc = .ok (.invokevirtual index, 3))
    (hpre : ∀ vm₁, s.WarmedH vm₁ → Pre ⟨T.setVm vm₁, locs, cells, slots⟩ (Value.ref b :: argsL).toArray) :
    ∃ (v : Option Value) (vm₁ : Vm) (B : Pt), s.WarmedH vm₁ ∧ Stand p l e R s m args below meth c B.U B.locs B.cells B.slots ∧ Post ⟨T.setVm vm₁, locs, cells, slots⟩ (Value.ref b :: argsL).toArray v B ∧
      ∀ target, Steps p.tables e below (B.U.setTop { g with pc := g.pc + 3, stack := v.toList ++ rest }) target → Steps p.tables e below (T.setTop g) target := by
  obtain ⟨mk, methM, hnamed, hmethM, hstM, habM⟩ := Cond.instanceMethod_spec hinst
  obtain ⟨m8, methM', cM, hn8, hmethM', -, -, -, -, -, -, hsigM⟩ := Cond.codeWith_spec hcode
  cases Option.some.inj (hn8.symm.trans hnamed)
  cases hmethM.symm.trans hmethM'
  obtain ⟨c2, r2, m2, q1, q2, q3, q4, kP, hkP, hkPi⟩ := Cond.selects_spec hsel
  cases hcls.symm.trans q1
  cases (State.methodFound?_of_named hnamed hy).symm.trans q2
  cases hnamed.symm.trans q3
  have hselP : selectMethod e.platform s.vm cellB.cls mk = .method mk := by rw [Launch.admits_selectMethod X.admits]; exact q4
  obtain ⟨vm₁, X₁, hstep₁⟩ := X.invokevirtual hexec hown hlink hnamed hmethM hstM hkP hkPi hy (a := b) (cell := cellB) hcell
    (fun z h => by rw [h] at hobj; cases hobj) hselP hmethM habM hkP hkPi (g := g) hg (argsL := argsL) (rest := rest) (hlen _ hsigM) hstack hdg
  obtain ⟨v, B, X', hpost, hsteps⟩ := hK m meth c ⟨T.setVm vm₁, locs, cells, slots⟩ { g with stack := rest } (.invokevirtual index) mk (Value.ref b :: argsL).toArray X₁ hg hsize hdg hW (X₁.named hnamed) (hpre vm₁ X₁.warmed)
  exact ⟨v, vm₁, B, X₁.warmed, X', hpost, fun target h => hstep₁ _ fun acts => by rw [doInvoke_state]; exact hsteps.trans h⟩
abbrev vx_CVW (R : Room) (s : State) (args : Array Value) (own C : String) (index : Nat) (y : MethodName) (bytes : ByteArray) (maxL : Nat) (ret : Option FieldType) (hh : List (Nat × Nat × Nat × Nat)) (ws : List Cond) (rm : Room) (mc ms n : Nat) : Prop :=
  (rm.cells = mc ∧ rm.slots = ms ∧ rm.frames + 1 ≤ R.frames ∧ 8 + (maxL + 11) + rm.locals ≤ R.locals ∧ (∀ w ∈ ws, ∀ (a' : Array Value) (U : State), s.WarmedH U.vm → w.before a' U = true) ∧ Cond.codeWith y bytes maxL ret hh ∈ ws) ∧
  (Cond.codeWith y bytes maxL ret hh).before args s = true ∧ (Cond.initialized y.cls).before args s = true ∧ (y.cls ≠ "java/lang/invoke/MethodHandle" ∧ y.cls ≠ "java/lang/invoke/VarHandle") ∧
  (∀ sig, parseMethodDescriptor y.desc = some sig → n = sig.parameters.length) ∧ (Cond.methodLink own index y).before args s = true ∧ (Cond.instanceMethod y).before args s = true ∧ (Cond.selects C y y).before args s = true
theorem vx_cwVW {own C : String} {index maxL mc ms : Nat} {y : MethodName} {bytes : ByteArray} {ret : Option FieldType} {hh : List (Nat × Nat × Nat × Nat)} {Ts ws ws' : List Cond} {rm : Room} (n : Nat) (ht : ∀ w ∈ Ts, w.before args s = true) (hT : GoodIn Ts (wsV own index C y ws)) (hw : ws = Cond.codeWith y bytes maxL ret hh :: ws') (hrc : rm.cells = mc) (hrs : rm.slots = ms)
    (hd : y.cls = C ∧ y.cls ≠ "java/lang/invoke/MethodHandle" ∧ y.cls ≠ "java/lang/invoke/VarHandle" ∧ (parseMethodDescriptor y.desc).map (fun d => d.parameters.length) = some n) (hR : rm.frames + 1 ≤ R.frames ∧ 8 + (maxL + 11) + rm.locals ≤ R.locals) :
    vx_CVW R s args own C index y bytes maxL ret hh ws rm mc ms n := by
  obtain ⟨hC, hd⟩ := hd
  subst hC
  have ok : ∀ w ∈ wsV own index y.cls y ws, w.before args s = true := fun w h => ht w (hT w h).1
  have hG : GoodIn Ts ws := fun w h => hT w (by unfold wsV; exact List.mem_append_right _ h)
  have hc : Cond.codeWith y bytes maxL ret hh ∈ ws := by rw [hw]; exact List.mem_cons_self
  refine ⟨⟨hrc, hrs, hR.1, hR.2, pay_in ht hG, hc⟩, ht _ (hG _ hc).1, ok _ (by simp [wsV]), ⟨hd.1, hd.2.1⟩, fun sig h => ?_, ok _ (by simp [wsV]), ok _ (by simp [wsV]), ok _ (by simp [wsV])⟩
  have h2 := hd.2.2
  rw [h] at h2
  exact (Option.some.inj h2).symm
theorem vx_runVW {y : MethodName} {bytes cc : ByteArray} {maxL nL mc ms n index : Nat} {ret : Option FieldType} {hh : List (Nat × Nat × Nat × Nat)} {ws : List Cond} {rm : Room} {Pc : Array Value → State → Prop} {Qc : Array Value → State → Outcome → State → Prop} {free : Addr → Prop} {Ts : List Cond} {own C : String} {b : Addr} {As rest : List Value} {g : JFrame}
    (S : CallFix p m c cc nL s args Ts own) (hM : Met l y ws rm Pc Qc mc ms free) (cw : vx_CVW R s args own C index y bytes maxL ret hh ws rm mc ms n) (hp : PreV s H C b Pc As)
    (hg : g.method = m) (hn : As.length = n) (hsize : g.locals.size = nL) (hstack : g.stack = As.reverse ++ .ref b :: rest) (hW : 2 * g.monitorRoom + (rest.map fun v => v.category).sum ≤ 8) (hdg : decode cc g.pc = .ok (.invokevirtual index, 3)) (hf : cells + mc ≤ R.cells ∧ slots + ms ≤ R.slots) :
    va_Run p l e R s m args below meth c H locs cells slots mc ms g rest (Qc (Value.ref b :: As).toArray) free := by
  obtain ⟨⟨hrc, hrs, hfr, hlo, hws, hcw⟩, hcode, hini, hy, hlen, hl, hin, hse⟩ := cw
  have hK : Back l R p e below s args y 3 8 (PreOf R mc ms Pc) (PostOf Qc mc ms free) := va_backW (hh := hh) (bytes := bytes) (maxL := maxL) (ret := ret) hM hp.1 hrc hrs hfr hlo hws hcw (fun a' U hW => word_at hW (Or.inl (by first | rfl | simp [Cond.onTables, Cond.keeps, Cond.steady])) hini)
  obtain ⟨hx, hb, hml, ho, -⟩ := S
  obtain ⟨-, ⟨cellB, hcB, hoB, hclB⟩, hPc⟩ := hp
  intro T hT X
  obtain ⟨v, vm₁, ⟨U', l2, c2, s2⟩, hW₁, X', ⟨g', mk, t, L, e1, e2, hq, h1, hL, h2, h3⟩, st⟩ := vx_callVW X hx (C := C) (hh := hh) (bytes := bytes) (maxL := maxL) (ret := ret) ho hl hin hse hcode hy hK (by rw [hT]; exact hcB) hoB hclB hg (hsize.trans hml.symm) (argsL := As) (rest := rest) (fun sig h => hn.trans (hlen sig h)) hstack hW (by rw [hb]; exact hdg)
    (fun vm₁ hW₁ => ⟨hf.1, hf.2, hPc (T.setVm vm₁) hT hW₁⟩)
  dsimp only [Pt.U, Pt.locs, Pt.cells, Pt.slots] at X' e1 e2 h1 h2 h3 st
  subst h1; subst h2; subst h3
  exact ⟨v, (T.setVm vm₁).calling g' mk (Value.ref b :: As).toArray, t, U', L, hT, X', hL, e1, e2, hq, st⟩
section
variable {y : MethodName} {bytes cc : ByteArray} {maxL nL mc ms n index : Nat} {ret : Option FieldType} {ws : List Cond} {rm : Room} {Pc : Array Value → State → Prop} {Qc : Array Value → State → Outcome → State → Prop} {XC : String → State → State → Prop} {free : Addr → Prop} {Ts : List Cond} {own C : String} {b : Addr} {As rest : List Value} {g : JFrame}
theorem vx_runVX {hh : List (Nat × Nat × Nat × Nat)} (S : CallFix p m c cc nL s args Ts own) (hM : vx_Met l y ws rm Pc Qc XC mc ms free) (cw : vx_CVW R s args own C index y bytes maxL ret hh ws rm mc ms n) (hp : PreV s H C b Pc As)
    (hg : g.method = m) (hn : As.length = n) (hsize : g.locals.size = nL) (hstack : g.stack = As.reverse ++ .ref b :: rest) (hW : 2 * g.monitorRoom + (rest.map fun v => v.category).sum ≤ 8) (hdg : decode cc g.pc = .ok (.invokevirtual index, 3)) (hf : cells + mc ≤ R.cells ∧ slots + ms ≤ R.slots) :
    vx_Run p l e R s m args below meth c H locs cells slots mc ms g rest (Qc (Value.ref b :: As).toArray) XC free := by
  obtain ⟨⟨hrc, hrs, hfr, hlo, hws, hcw⟩, hcode, hini, hy, hlen, hl, hin, hse⟩ := cw
  have hK : vx_Back l R p e below s args y 3 8 (PreOf R mc ms Pc) (PostOf Qc mc ms free) (vx_Post XC mc ms free) := vx_backW (hh := hh) (bytes := bytes) (maxL := maxL) (ret := ret) hM hp.1 hrc hrs hfr hlo hws hcw (fun a' U hW => word_at hW (Or.inl (by first | rfl | simp [Cond.onTables, Cond.keeps, Cond.steady])) hini)
  obtain ⟨hx, hb, hml, ho, -⟩ := S
  obtain ⟨-, ⟨cellB, hcB, hoB, hclB⟩, hPc⟩ := hp
  intro T hT X
  rcases vx_callVX X hx (C := C) (hh := hh) (bytes := bytes) (maxL := maxL) (ret := ret) ho hl hin hse hcode hy hK (by rw [hT]; exact hcB) hoB hclB hg (hsize.trans hml.symm) (argsL := As) (rest := rest) (fun sig h => hn.trans (hlen sig h)) hstack hW (by rw [hb]; exact hdg)
    (fun vm₁ hW₁ => ⟨hf.1, hf.2, hPc (T.setVm vm₁) hT hW₁⟩) with ⟨v, vm₁, ⟨U', l2, c2, s2⟩, hW₁, X', ⟨g', mk, t, L, e1, e2, hq, h1, hL, h2, h3⟩, st⟩ | ⟨q, vm₁, ⟨U', l2, c2, s2⟩, hW₁, X', ⟨g', mk, t, L, E, ce, e1, e2, hq, hce, hcv, hcl, h1, hL, h2, h3⟩, st⟩
  · dsimp only [Pt.U, Pt.locs, Pt.cells, Pt.slots] at X' e1 e2 h1 h2 h3 st
    subst h1; subst h2; subst h3
    exact Or.inl ⟨v, (T.setVm vm₁).calling g' mk (Value.ref b :: As).toArray, t, U', L, hT, X', hL, e1, e2, hq, st⟩
  · dsimp only [Pt.U, Pt.locs, Pt.cells, Pt.slots] at X' e1 e2 h1 h2 h3 st hcl
    subst h1; subst h2; subst h3
    exact Or.inr ⟨q, (T.setVm vm₁).calling g' mk (Value.ref b :: As).toArray, t, U', L, E, ce, hT, X', hL, e1, e2, hq, hce, hcv, vx_cls hW₁ hcl, st⟩
theorem vx_runSX {hh : List (Nat × Nat × Nat × Nat)} (S : CallFix p m c cc nL s args Ts own) (hM : vx_Met l y ws rm Pc Qc XC mc ms free) (cw : vx_CSW R s args own index y bytes maxL ret hh ws rm mc ms n) (hp : PreS s H Pc As)
    (hg : g.method = m) (hn : As.length = n) (hsize : g.locals.size = nL) (hstack : g.stack = As.reverse ++ rest) (hW : 2 * g.monitorRoom + (rest.map fun v => v.category).sum ≤ 8) (hdg : decode cc g.pc = .ok (.invokestatic index, 3)) (hf : cells + mc ≤ R.cells ∧ slots + ms ≤ R.slots) :
    vx_Run p l e R s m args below meth c H locs cells slots mc ms g rest (Qc As.toArray) XC free := by
  obtain ⟨⟨hrc, hrs, hfr, hlo, hws, hcw⟩, hcode, hini, hy, hlen, hl, hstt⟩ := cw
  have hK : vx_Back l R p e below s args y 3 8 (PreOf R mc ms Pc) (PostOf Qc mc ms free) (vx_Post XC mc ms free) := vx_backW (hh := hh) (bytes := bytes) (maxL := maxL) (ret := ret) hM hp.1 hrc hrs hfr hlo hws hcw (fun a' U hW => word_at hW (Or.inl (by first | rfl | simp [Cond.onTables, Cond.keeps, Cond.steady])) hini)
  obtain ⟨hx, hb, hml, ho, -⟩ := S
  intro T hT X
  rcases vx_callSX X hx (hh := hh) (bytes := bytes) (maxL := maxL) (ret := ret) ho hl hstt hini hcode hy hK hg (hsize.trans hml.symm) (argsL := As) (rest := rest) (fun sig h => hn.trans (hlen sig h)) hstack hW (by rw [hb]; exact hdg)
    (fun vm₁ hW₁ => ⟨hf.1, hf.2, hp.2 (T.setVm vm₁) hT hW₁⟩) with ⟨v, vm₁, ⟨U', l2, c2, s2⟩, hW₁, X', ⟨g', mk, t, L, e1, e2, hq, h1, hL, h2, h3⟩, st⟩ | ⟨q, vm₁, ⟨U', l2, c2, s2⟩, hW₁, X', ⟨g', mk, t, L, E, ce, e1, e2, hq, hce, hcv, hcl, h1, hL, h2, h3⟩, st⟩
  · dsimp only [Pt.U, Pt.locs, Pt.cells, Pt.slots] at X' e1 e2 h1 h2 h3 st
    subst h1; subst h2; subst h3
    exact Or.inl ⟨v, (T.setVm vm₁).calling g' mk As.toArray, t, U', L, hT, X', hL, e1, e2, hq, st⟩
  · dsimp only [Pt.U, Pt.locs, Pt.cells, Pt.slots] at X' e1 e2 h1 h2 h3 st hcl
    subst h1; subst h2; subst h3
    exact Or.inr ⟨q, (T.setVm vm₁).calling g' mk As.toArray, t, U', L, E, ce, hT, X', hL, e1, e2, hq, hce, hcv, vx_cls hW₁ hcl, st⟩
end
end VXH
theorem vx_ofWH {l : Launch} {y : MethodName} {ws ws' : List Cond} {rm : Room} {Pc : Array Value → State → Prop} {Qc : Array Value → State → Outcome → State → Prop} {XC : String → State → State → Prop} {mc ms : Nat} {free : Addr → Prop} {cc : ByteArray} {maxL : Nat} {ret : Option FieldType} {hh : List (Nat × Nat × Nat × Nat)}
    (hy : plainName y.cls = true) (hw : ws = Cond.codeWith y cc maxL ret hh :: ws')
    (body : ∀ p e s m args below meth c s₁, BodyLoose p l y (headSpec ws rm) cc maxL ret e s m args below meth c s₁ → c.maxLocals = maxL → Pc args s →
      W p l e (headSpec ws rm).room s m args below meth c s.heap [] 0 0 (vx_MQ below Qc XC args s mc ms free) (entryFrame m args maxL)) : vx_Met l y ws rm Pc Qc XC mc ms free := by
  refine MetFree.of_bodyS (code := cc) (maxLocals := maxL) (ret := ret) hy ?_ ?_
  · intro args s m h hn
    obtain ⟨m9, meth, c, hn9, h1, h2, h3, h4, -, h5, h6, -⟩ := Cond.codeWith_spec (atoms_spec (ws := ws) h _ (by rw [hw]; exact List.mem_cons_self))
    cases hn.symm.trans hn9
    exact ⟨meth, c, h1, h2, h3, h4, h5, h6⟩
  · intro p e s m args below meth c s₁ B hml hP _
    have hh0 : s₁.heap = s.heap := by rw [B.state]; rfl
    obtain ⟨t, a1, o, b1, b2, b3⟩ := body p e s m args below meth c s₁ B hml hP s₁ hh0 (Stand.of_body B)
    exact ⟨t, o, a1, b1, b2, b3⟩
/-! ===== END ===== -/
end
section
-- ===== PART A: goes FIRST, ahead of the names: the tables' words, and 'selects' of the private methods out of them =====
/-- a private method of a class that the tables say can be made, by its rows of tables_1 -/
def lw_okq (q : MethodName × Nat) : Prop := (q.1.cls ≠ "java/lang/invoke/MethodHandle" ∧ q.1.cls ≠ "java/lang/invoke/VarHandle") ∧ Cond.instantiable q.1.cls q.2 ∈ tables_1 ∧ Cond.privateMethod q.1 ∈ tables_1 ∧ Cond.instanceMethod q.1 ∈ tables_1
theorem lw_p0 : lw_okq (⟨"CargoHeel", "momentKept", "(I)I"⟩, 12) := ⟨⟨by decide +kernel, by decide +kernel⟩, List.mem_of_getElem? (i := 17) (by decide +kernel), List.mem_of_getElem? (i := 235) (by decide +kernel), List.mem_of_getElem? (i := 236) (by decide +kernel)⟩
theorem lw_p1 : lw_okq (⟨"java/lang/Throwable", "fillInStackTrace", "(I)Ljava/lang/Throwable;"⟩, 6) := ⟨⟨by decide +kernel, by decide +kernel⟩, List.mem_of_getElem? (i := 309) (by decide +kernel), List.mem_of_getElem? (i := 307) (by decide +kernel), List.mem_of_getElem? (i := 308) (by decide +kernel)⟩
theorem lw_p2 : lw_okq (⟨"CargoHeel", "mayBeStacked", "(II)Z"⟩, 12) := ⟨⟨by decide +kernel, by decide +kernel⟩, List.mem_of_getElem? (i := 17) (by decide +kernel), List.mem_of_getElem? (i := 459) (by decide +kernel), List.mem_of_getElem? (i := 460) (by decide +kernel)⟩
theorem lw_p3 : lw_okq (⟨"CargoHeel", "putInYard", "(II)V"⟩, 12) := ⟨⟨by decide +kernel, by decide +kernel⟩, List.mem_of_getElem? (i := 17) (by decide +kernel), List.mem_of_getElem? (i := 479) (by decide +kernel), List.mem_of_getElem? (i := 480) (by decide +kernel)⟩
theorem lw_p4 : lw_okq (⟨"CargoHeel", "isBox", "(I)Z"⟩, 12) := ⟨⟨by decide +kernel, by decide +kernel⟩, List.mem_of_getElem? (i := 17) (by decide +kernel), List.mem_of_getElem? (i := 500) (by decide +kernel), List.mem_of_getElem? (i := 501) (by decide +kernel)⟩
theorem lw_p5 : lw_okq (⟨"CargoHeel", "isAhead", "(I)Z"⟩, 12) := ⟨⟨by decide +kernel, by decide +kernel⟩, List.mem_of_getElem? (i := 17) (by decide +kernel), List.mem_of_getElem? (i := 518) (by decide +kernel), List.mem_of_getElem? (i := 519) (by decide +kernel)⟩
theorem lw_p6 : lw_okq (⟨"CargoHeel", "portBehind", "(I)I"⟩, 12) := ⟨⟨by decide +kernel, by decide +kernel⟩, List.mem_of_getElem? (i := 17) (by decide +kernel), List.mem_of_getElem? (i := 523) (by decide +kernel), List.mem_of_getElem? (i := 524) (by decide +kernel)⟩
theorem lw_p7 : lw_okq (⟨"CargoHeel", "isOrder", "(I)Z"⟩, 12) := ⟨⟨by decide +kernel, by decide +kernel⟩, List.mem_of_getElem? (i := 17) (by decide +kernel), List.mem_of_getElem? (i := 548) (by decide +kernel), List.mem_of_getElem? (i := 549) (by decide +kernel)⟩
theorem lw_p8 : lw_okq (⟨"CargoHeel", "workAnHour", "(I)I"⟩, 12) := ⟨⟨by decide +kernel, by decide +kernel⟩, List.mem_of_getElem? (i := 17) (by decide +kernel), List.mem_of_getElem? (i := 566) (by decide +kernel), List.mem_of_getElem? (i := 567) (by decide +kernel)⟩
theorem lw_p9 : lw_okq (⟨"CargoHeel", "firstFor", "(I)I"⟩, 12) := ⟨⟨by decide +kernel, by decide +kernel⟩, List.mem_of_getElem? (i := 17) (by decide +kernel), List.mem_of_getElem? (i := 570) (by decide +kernel), List.mem_of_getElem? (i := 571) (by decide +kernel)⟩
theorem lw_p10 : lw_okq (⟨"CargoHeel", "canDo", "(II)Z"⟩, 12) := ⟨⟨by decide +kernel, by decide +kernel⟩, List.mem_of_getElem? (i := 17) (by decide +kernel), List.mem_of_getElem? (i := 574) (by decide +kernel), List.mem_of_getElem? (i := 575) (by decide +kernel)⟩
theorem lw_p11 : lw_okq (⟨"CargoHeel", "canLoad", "(I)Z"⟩, 12) := ⟨⟨by decide +kernel, by decide +kernel⟩, List.mem_of_getElem? (i := 17) (by decide +kernel), List.mem_of_getElem? (i := 583) (by decide +kernel), List.mem_of_getElem? (i := 584) (by decide +kernel)⟩
theorem lw_p12 : lw_okq (⟨"CargoHeel", "mayBeIn", "(II)Z"⟩, 12) := ⟨⟨by decide +kernel, by decide +kernel⟩, List.mem_of_getElem? (i := 17) (by decide +kernel), List.mem_of_getElem? (i := 587) (by decide +kernel), List.mem_of_getElem? (i := 588) (by decide +kernel)⟩
theorem lw_p13 : lw_okq (⟨"CargoHeel", "isApartIn", "(II)Z"⟩, 12) := ⟨⟨by decide +kernel, by decide +kernel⟩, List.mem_of_getElem? (i := 17) (by decide +kernel), List.mem_of_getElem? (i := 597) (by decide +kernel), List.mem_of_getElem? (i := 598) (by decide +kernel)⟩
theorem lw_p14 : lw_okq (⟨"CargoHeel", "canTake", "(II)Z"⟩, 12) := ⟨⟨by decide +kernel, by decide +kernel⟩, List.mem_of_getElem? (i := 17) (by decide +kernel), List.mem_of_getElem? (i := 601) (by decide +kernel), List.mem_of_getElem? (i := 602) (by decide +kernel)⟩
theorem lw_p15 : lw_okq (⟨"CargoHeel", "isJammed", "(I)Z"⟩, 12) := ⟨⟨by decide +kernel, by decide +kernel⟩, List.mem_of_getElem? (i := 17) (by decide +kernel), List.mem_of_getElem? (i := 610) (by decide +kernel), List.mem_of_getElem? (i := 611) (by decide +kernel)⟩
def lw_privs_1 : List (MethodName × Nat) := [(⟨"CargoHeel", "momentKept", "(I)I"⟩, 12), (⟨"java/lang/Throwable", "fillInStackTrace", "(I)Ljava/lang/Throwable;"⟩, 6), (⟨"CargoHeel", "mayBeStacked", "(II)Z"⟩, 12), (⟨"CargoHeel", "putInYard", "(II)V"⟩, 12), (⟨"CargoHeel", "isBox", "(I)Z"⟩, 12), (⟨"CargoHeel", "isAhead", "(I)Z"⟩, 12), (⟨"CargoHeel", "portBehind", "(I)I"⟩, 12), (⟨"CargoHeel", "isOrder", "(I)Z"⟩, 12), (⟨"CargoHeel", "workAnHour", "(I)I"⟩, 12), (⟨"CargoHeel", "firstFor", "(I)I"⟩, 12), (⟨"CargoHeel", "canDo", "(II)Z"⟩, 12), (⟨"CargoHeel", "canLoad", "(I)Z"⟩, 12), (⟨"CargoHeel", "mayBeIn", "(II)Z"⟩, 12), (⟨"CargoHeel", "isApartIn", "(II)Z"⟩, 12), (⟨"CargoHeel", "canTake", "(II)Z"⟩, 12), (⟨"CargoHeel", "isJammed", "(I)Z"⟩, 12)]
theorem lw_r1 : ∀ q ∈ lw_privs_1, lw_okq q := List.forall_mem_cons.mpr ⟨lw_p0, List.forall_mem_cons.mpr ⟨lw_p1, List.forall_mem_cons.mpr ⟨lw_p2, List.forall_mem_cons.mpr ⟨lw_p3, List.forall_mem_cons.mpr ⟨lw_p4, List.forall_mem_cons.mpr ⟨lw_p5, List.forall_mem_cons.mpr ⟨lw_p6, List.forall_mem_cons.mpr ⟨lw_p7, List.forall_mem_cons.mpr ⟨lw_p8, List.forall_mem_cons.mpr ⟨lw_p9, List.forall_mem_cons.mpr ⟨lw_p10, List.forall_mem_cons.mpr ⟨lw_p11, List.forall_mem_cons.mpr ⟨lw_p12, List.forall_mem_cons.mpr ⟨lw_p13, List.forall_mem_cons.mpr ⟨lw_p14, List.forall_mem_cons.mpr ⟨lw_p15, fun _ h => absurd h List.not_mem_nil⟩⟩⟩⟩⟩⟩⟩⟩⟩⟩⟩⟩⟩⟩⟩⟩
theorem lw_p16 : lw_okq (⟨"CargoHeel", "lift", "(III)V"⟩, 12) := ⟨⟨by decide +kernel, by decide +kernel⟩, List.mem_of_getElem? (i := 17) (by decide +kernel), List.mem_of_getElem? (i := 619) (by decide +kernel), List.mem_of_getElem? (i := 620) (by decide +kernel)⟩
theorem lw_p17 : lw_okq (⟨"CargoHeel", "takeAway", "(I)V"⟩, 12) := ⟨⟨by decide +kernel, by decide +kernel⟩, List.mem_of_getElem? (i := 17) (by decide +kernel), List.mem_of_getElem? (i := 623) (by decide +kernel), List.mem_of_getElem? (i := 624) (by decide +kernel)⟩
theorem lw_p18 : lw_okq (⟨"CargoHeel$Ship", "addWeight", "(II)V"⟩, 7) := ⟨⟨by decide +kernel, by decide +kernel⟩, List.mem_of_getElem? (i := 91) (by decide +kernel), List.mem_of_getElem? (i := 631) (by decide +kernel), List.mem_of_getElem? (i := 632) (by decide +kernel)⟩
theorem lw_p19 : lw_okq (⟨"CargoHeel", "putOnShip", "(II)V"⟩, 12) := ⟨⟨by decide +kernel, by decide +kernel⟩, List.mem_of_getElem? (i := 17) (by decide +kernel), List.mem_of_getElem? (i := 642) (by decide +kernel), List.mem_of_getElem? (i := 643) (by decide +kernel)⟩
theorem lw_p20 : lw_okq (⟨"CargoHeel", "overdueBoxes", "()I"⟩, 12) := ⟨⟨by decide +kernel, by decide +kernel⟩, List.mem_of_getElem? (i := 17) (by decide +kernel), List.mem_of_getElem? (i := 650) (by decide +kernel), List.mem_of_getElem? (i := 651) (by decide +kernel)⟩
theorem lw_p21 : lw_okq (⟨"CargoHeel", "boxesOn", "(I)I"⟩, 12) := ⟨⟨by decide +kernel, by decide +kernel⟩, List.mem_of_getElem? (i := 17) (by decide +kernel), List.mem_of_getElem? (i := 678) (by decide +kernel), List.mem_of_getElem? (i := 679) (by decide +kernel)⟩
theorem lw_p22 : lw_okq (⟨"CargoHeelModel", "stackMay", "(II)Z"⟩, 31) := ⟨⟨by decide +kernel, by decide +kernel⟩, List.mem_of_getElem? (i := 749) (by decide +kernel), List.mem_of_getElem? (i := 896) (by decide +kernel), List.mem_of_getElem? (i := 897) (by decide +kernel)⟩
theorem lw_p23 : lw_okq (⟨"CargoHeelModel", "fits", "(II)Z"⟩, 31) := ⟨⟨by decide +kernel, by decide +kernel⟩, List.mem_of_getElem? (i := 749) (by decide +kernel), List.mem_of_getElem? (i := 900) (by decide +kernel), List.mem_of_getElem? (i := 901) (by decide +kernel)⟩
theorem lw_p24 : lw_okq (⟨"CargoHeelModel", "comesTo", "(II)V"⟩, 31) := ⟨⟨by decide +kernel, by decide +kernel⟩, List.mem_of_getElem? (i := 749) (by decide +kernel), List.mem_of_getElem? (i := 904) (by decide +kernel), List.mem_of_getElem? (i := 905) (by decide +kernel)⟩
theorem lw_p25 : lw_okq (⟨"CargoHeelModel", "isBox", "(I)Z"⟩, 31) := ⟨⟨by decide +kernel, by decide +kernel⟩, List.mem_of_getElem? (i := 749) (by decide +kernel), List.mem_of_getElem? (i := 912) (by decide +kernel), List.mem_of_getElem? (i := 913) (by decide +kernel)⟩
theorem lw_p26 : lw_okq (⟨"CargoHeelModel", "isHeld", "(I)Z"⟩, 31) := ⟨⟨by decide +kernel, by decide +kernel⟩, List.mem_of_getElem? (i := 749) (by decide +kernel), List.mem_of_getElem? (i := 916) (by decide +kernel), List.mem_of_getElem? (i := 917) (by decide +kernel)⟩
theorem lw_p27 : lw_okq (⟨"CargoHeelModel", "isAhead", "(I)Z"⟩, 31) := ⟨⟨by decide +kernel, by decide +kernel⟩, List.mem_of_getElem? (i := 749) (by decide +kernel), List.mem_of_getElem? (i := 924) (by decide +kernel), List.mem_of_getElem? (i := 925) (by decide +kernel)⟩
theorem lw_p28 : lw_okq (⟨"CargoHeelModel", "nextPort", "(I)I"⟩, 31) := ⟨⟨by decide +kernel, by decide +kernel⟩, List.mem_of_getElem? (i := 749) (by decide +kernel), List.mem_of_getElem? (i := 928) (by decide +kernel), List.mem_of_getElem? (i := 929) (by decide +kernel)⟩
theorem lw_p29 : lw_okq (⟨"CargoHeelModel", "isOrder", "(I)Z"⟩, 31) := ⟨⟨by decide +kernel, by decide +kernel⟩, List.mem_of_getElem? (i := 749) (by decide +kernel), List.mem_of_getElem? (i := 940) (by decide +kernel), List.mem_of_getElem? (i := 941) (by decide +kernel)⟩
theorem lw_p30 : lw_okq (⟨"CargoHeelModel", "removes", "(I)V"⟩, 31) := ⟨⟨by decide +kernel, by decide +kernel⟩, List.mem_of_getElem? (i := 749) (by decide +kernel), List.mem_of_getElem? (i := 944) (by decide +kernel), List.mem_of_getElem? (i := 945) (by decide +kernel)⟩
theorem lw_p31 : lw_okq (⟨"CargoHeelModel", "liftsOf", "(I)I"⟩, 31) := ⟨⟨by decide +kernel, by decide +kernel⟩, List.mem_of_getElem? (i := 749) (by decide +kernel), List.mem_of_getElem? (i := 952) (by decide +kernel), List.mem_of_getElem? (i := 953) (by decide +kernel)⟩
def lw_privs_2 : List (MethodName × Nat) := [(⟨"CargoHeel", "lift", "(III)V"⟩, 12), (⟨"CargoHeel", "takeAway", "(I)V"⟩, 12), (⟨"CargoHeel$Ship", "addWeight", "(II)V"⟩, 7), (⟨"CargoHeel", "putOnShip", "(II)V"⟩, 12), (⟨"CargoHeel", "overdueBoxes", "()I"⟩, 12), (⟨"CargoHeel", "boxesOn", "(I)I"⟩, 12), (⟨"CargoHeelModel", "stackMay", "(II)Z"⟩, 31), (⟨"CargoHeelModel", "fits", "(II)Z"⟩, 31), (⟨"CargoHeelModel", "comesTo", "(II)V"⟩, 31), (⟨"CargoHeelModel", "isBox", "(I)Z"⟩, 31), (⟨"CargoHeelModel", "isHeld", "(I)Z"⟩, 31), (⟨"CargoHeelModel", "isAhead", "(I)Z"⟩, 31), (⟨"CargoHeelModel", "nextPort", "(I)I"⟩, 31), (⟨"CargoHeelModel", "isOrder", "(I)Z"⟩, 31), (⟨"CargoHeelModel", "removes", "(I)V"⟩, 31), (⟨"CargoHeelModel", "liftsOf", "(I)I"⟩, 31)]
theorem lw_r2 : ∀ q ∈ lw_privs_2, lw_okq q := List.forall_mem_cons.mpr ⟨lw_p16, List.forall_mem_cons.mpr ⟨lw_p17, List.forall_mem_cons.mpr ⟨lw_p18, List.forall_mem_cons.mpr ⟨lw_p19, List.forall_mem_cons.mpr ⟨lw_p20, List.forall_mem_cons.mpr ⟨lw_p21, List.forall_mem_cons.mpr ⟨lw_p22, List.forall_mem_cons.mpr ⟨lw_p23, List.forall_mem_cons.mpr ⟨lw_p24, List.forall_mem_cons.mpr ⟨lw_p25, List.forall_mem_cons.mpr ⟨lw_p26, List.forall_mem_cons.mpr ⟨lw_p27, List.forall_mem_cons.mpr ⟨lw_p28, List.forall_mem_cons.mpr ⟨lw_p29, List.forall_mem_cons.mpr ⟨lw_p30, List.forall_mem_cons.mpr ⟨lw_p31, fun _ h => absurd h List.not_mem_nil⟩⟩⟩⟩⟩⟩⟩⟩⟩⟩⟩⟩⟩⟩⟩⟩
theorem lw_p32 : lw_okq (⟨"CargoHeelModel", "isDoable", "(II)Z"⟩, 31) := ⟨⟨by decide +kernel, by decide +kernel⟩, List.mem_of_getElem? (i := 749) (by decide +kernel), List.mem_of_getElem? (i := 956) (by decide +kernel), List.mem_of_getElem? (i := 957) (by decide +kernel)⟩
theorem lw_p33 : lw_okq (⟨"CargoHeelModel", "reaches", "(II)Z"⟩, 31) := ⟨⟨by decide +kernel, by decide +kernel⟩, List.mem_of_getElem? (i := 749) (by decide +kernel), List.mem_of_getElem? (i := 960) (by decide +kernel), List.mem_of_getElem? (i := 961) (by decide +kernel)⟩
theorem lw_p34 : lw_okq (⟨"CargoHeelModel", "isWithin", "(II)Z"⟩, 31) := ⟨⟨by decide +kernel, by decide +kernel⟩, List.mem_of_getElem? (i := 749) (by decide +kernel), List.mem_of_getElem? (i := 964) (by decide +kernel), List.mem_of_getElem? (i := 965) (by decide +kernel)⟩
theorem lw_p35 : lw_okq (⟨"CargoHeelModel", "isPossible", "(I)Z"⟩, 31) := ⟨⟨by decide +kernel, by decide +kernel⟩, List.mem_of_getElem? (i := 749) (by decide +kernel), List.mem_of_getElem? (i := 968) (by decide +kernel), List.mem_of_getElem? (i := 969) (by decide +kernel)⟩
theorem lw_p36 : lw_okq (⟨"CargoHeelModel", "isOnTop", "(I)Z"⟩, 31) := ⟨⟨by decide +kernel, by decide +kernel⟩, List.mem_of_getElem? (i := 749) (by decide +kernel), List.mem_of_getElem? (i := 972) (by decide +kernel), List.mem_of_getElem? (i := 973) (by decide +kernel)⟩
theorem lw_p37 : lw_okq (⟨"CargoHeelModel", "slotMay", "(II)Z"⟩, 31) := ⟨⟨by decide +kernel, by decide +kernel⟩, List.mem_of_getElem? (i := 749) (by decide +kernel), List.mem_of_getElem? (i := 976) (by decide +kernel), List.mem_of_getElem? (i := 977) (by decide +kernel)⟩
theorem lw_p38 : lw_okq (⟨"CargoHeelModel", "isDangerous", "(I)Z"⟩, 31) := ⟨⟨by decide +kernel, by decide +kernel⟩, List.mem_of_getElem? (i := 749) (by decide +kernel), List.mem_of_getElem? (i := 980) (by decide +kernel), List.mem_of_getElem? (i := 981) (by decide +kernel)⟩
theorem lw_p39 : lw_okq (⟨"CargoHeelModel", "isApart", "(II)Z"⟩, 31) := ⟨⟨by decide +kernel, by decide +kernel⟩, List.mem_of_getElem? (i := 749) (by decide +kernel), List.mem_of_getElem? (i := 984) (by decide +kernel), List.mem_of_getElem? (i := 985) (by decide +kernel)⟩
theorem lw_p40 : lw_okq (⟨"CargoHeelModel", "canTake", "(I)Z"⟩, 31) := ⟨⟨by decide +kernel, by decide +kernel⟩, List.mem_of_getElem? (i := 749) (by decide +kernel), List.mem_of_getElem? (i := 988) (by decide +kernel), List.mem_of_getElem? (i := 989) (by decide +kernel)⟩
theorem lw_p41 : lw_okq (⟨"CargoHeelModel", "canOpen", "(I)Z"⟩, 31) := ⟨⟨by decide +kernel, by decide +kernel⟩, List.mem_of_getElem? (i := 749) (by decide +kernel), List.mem_of_getElem? (i := 992) (by decide +kernel), List.mem_of_getElem? (i := 993) (by decide +kernel)⟩
theorem lw_p42 : lw_okq (⟨"CargoHeelModel", "hasOnTop", "(I)Z"⟩, 31) := ⟨⟨by decide +kernel, by decide +kernel⟩, List.mem_of_getElem? (i := 749) (by decide +kernel), List.mem_of_getElem? (i := 996) (by decide +kernel), List.mem_of_getElem? (i := 997) (by decide +kernel)⟩
theorem lw_p43 : lw_okq (⟨"CargoHeelModel", "does", "(I)V"⟩, 31) := ⟨⟨by decide +kernel, by decide +kernel⟩, List.mem_of_getElem? (i := 749) (by decide +kernel), List.mem_of_getElem? (i := 1000) (by decide +kernel), List.mem_of_getElem? (i := 1001) (by decide +kernel)⟩
theorem lw_p44 : lw_okq (⟨"CargoHeelModel", "comesAboard", "(II)V"⟩, 31) := ⟨⟨by decide +kernel, by decide +kernel⟩, List.mem_of_getElem? (i := 749) (by decide +kernel), List.mem_of_getElem? (i := 1004) (by decide +kernel), List.mem_of_getElem? (i := 1005) (by decide +kernel)⟩
theorem lw_p45 : lw_okq (⟨"CargoHeelModel", "barsNow", "()I"⟩, 31) := ⟨⟨by decide +kernel, by decide +kernel⟩, List.mem_of_getElem? (i := 749) (by decide +kernel), List.mem_of_getElem? (i := 1012) (by decide +kernel), List.mem_of_getElem? (i := 1013) (by decide +kernel)⟩
theorem lw_p46 : lw_okq (⟨"CargoHeelModel", "momentOf", "(I)I"⟩, 31) := ⟨⟨by decide +kernel, by decide +kernel⟩, List.mem_of_getElem? (i := 749) (by decide +kernel), List.mem_of_getElem? (i := 1016) (by decide +kernel), List.mem_of_getElem? (i := 1017) (by decide +kernel)⟩
theorem lw_p47 : lw_okq (⟨"CargoHeelModel", "liesOn", "(I)I"⟩, 31) := ⟨⟨by decide +kernel, by decide +kernel⟩, List.mem_of_getElem? (i := 749) (by decide +kernel), List.mem_of_getElem? (i := 1042) (by decide +kernel), List.mem_of_getElem? (i := 1043) (by decide +kernel)⟩
def lw_privs_3 : List (MethodName × Nat) := [(⟨"CargoHeelModel", "isDoable", "(II)Z"⟩, 31), (⟨"CargoHeelModel", "reaches", "(II)Z"⟩, 31), (⟨"CargoHeelModel", "isWithin", "(II)Z"⟩, 31), (⟨"CargoHeelModel", "isPossible", "(I)Z"⟩, 31), (⟨"CargoHeelModel", "isOnTop", "(I)Z"⟩, 31), (⟨"CargoHeelModel", "slotMay", "(II)Z"⟩, 31), (⟨"CargoHeelModel", "isDangerous", "(I)Z"⟩, 31), (⟨"CargoHeelModel", "isApart", "(II)Z"⟩, 31), (⟨"CargoHeelModel", "canTake", "(I)Z"⟩, 31), (⟨"CargoHeelModel", "canOpen", "(I)Z"⟩, 31), (⟨"CargoHeelModel", "hasOnTop", "(I)Z"⟩, 31), (⟨"CargoHeelModel", "does", "(I)V"⟩, 31), (⟨"CargoHeelModel", "comesAboard", "(II)V"⟩, 31), (⟨"CargoHeelModel", "barsNow", "()I"⟩, 31), (⟨"CargoHeelModel", "momentOf", "(I)I"⟩, 31), (⟨"CargoHeelModel", "liesOn", "(I)I"⟩, 31)]
theorem lw_r3 : ∀ q ∈ lw_privs_3, lw_okq q := List.forall_mem_cons.mpr ⟨lw_p32, List.forall_mem_cons.mpr ⟨lw_p33, List.forall_mem_cons.mpr ⟨lw_p34, List.forall_mem_cons.mpr ⟨lw_p35, List.forall_mem_cons.mpr ⟨lw_p36, List.forall_mem_cons.mpr ⟨lw_p37, List.forall_mem_cons.mpr ⟨lw_p38, List.forall_mem_cons.mpr ⟨lw_p39, List.forall_mem_cons.mpr ⟨lw_p40, List.forall_mem_cons.mpr ⟨lw_p41, List.forall_mem_cons.mpr ⟨lw_p42, List.forall_mem_cons.mpr ⟨lw_p43, List.forall_mem_cons.mpr ⟨lw_p44, List.forall_mem_cons.mpr ⟨lw_p45, List.forall_mem_cons.mpr ⟨lw_p46, List.forall_mem_cons.mpr ⟨lw_p47, fun _ h => absurd h List.not_mem_nil⟩⟩⟩⟩⟩⟩⟩⟩⟩⟩⟩⟩⟩⟩⟩⟩
def lw_privs : List (MethodName × Nat) := lw_privs_1 ++ (lw_privs_2 ++ (lw_privs_3))
def lw_tbl : List Cond := k2_sels lw_privs ++ tables_1
theorem lw_privs_ok : ∀ q ∈ lw_privs, lw_okq q := by
  show ∀ q ∈ lw_privs_1 ++ (lw_privs_2 ++ (lw_privs_3)), lw_okq q
  exact List.forall_mem_append.mpr ⟨lw_r1, List.forall_mem_append.mpr ⟨lw_r2, lw_r3⟩⟩

/-! the good words of the tables, as one list; names of classes, fields, methods -/
def TBL : List Cond := lw_tbl.filter goodWord
theorem tb_s {w : Cond} (i : Nat) (h : (k2_sels lw_privs)[i]? = some w) (hg : goodWord w = true) : w ∈ TBL := List.mem_filter.mpr ⟨List.mem_append_left _ (List.mem_of_getElem? h), hg⟩
theorem tb_1 {w : Cond} (i : Nat) (h : tables_1_1[i]? = some w) (hg : goodWord w = true) : w ∈ TBL := List.mem_filter.mpr ⟨List.mem_append_right _ (List.mem_append_left _ (List.mem_of_getElem? h)), hg⟩
theorem tb_2 {w : Cond} (i : Nat) (h : tables_1_2[i]? = some w) (hg : goodWord w = true) : w ∈ TBL := List.mem_filter.mpr ⟨List.mem_append_right _ (List.mem_append_right _ (List.mem_append_left _ (List.mem_of_getElem? h))), hg⟩
theorem tb_3 {w : Cond} (i : Nat) (h : tables_1_3[i]? = some w) (hg : goodWord w = true) : w ∈ TBL := List.mem_filter.mpr ⟨List.mem_append_right _ (List.mem_append_right _ (List.mem_append_right _ (List.mem_append_left _ (List.mem_of_getElem? h)))), hg⟩
theorem tb_4 {w : Cond} (i : Nat) (h : tables_1_4[i]? = some w) (hg : goodWord w = true) : w ∈ TBL := List.mem_filter.mpr ⟨List.mem_append_right _ (List.mem_append_right _ (List.mem_append_right _ (List.mem_append_right _ (List.mem_append_left _ (List.mem_of_getElem? h))))), hg⟩
theorem tb_5 {w : Cond} (i : Nat) (h : tables_1_5[i]? = some w) (hg : goodWord w = true) : w ∈ TBL := List.mem_filter.mpr ⟨List.mem_append_right _ (List.mem_append_right _ (List.mem_append_right _ (List.mem_append_right _ (List.mem_append_right _ (List.mem_of_getElem? h))))), hg⟩
def RX0 : String := "CargoHeel$Boxes"
def TX0 : u_T := fun k => match k with
  | 0 => ("CargoHeel$Boxes", "told", "LCargoHeel$Row;", true)
  | 1 => ("CargoHeel$Boxes", "truth", "LCargoHeel$Row;", true)
  | 2 => ("CargoHeel$Boxes", "port", "LCargoHeel$Row;", true)
  | 3 => ("CargoHeel$Boxes", "kind", "LCargoHeel$Row;", true)
  | 4 => ("CargoHeel$Boxes", "papers", "LCargoHeel$Row;", true)
  | 5 => ("CargoHeel$Boxes", "where", "LCargoHeel$Row;", true)
  | 6 => ("CargoHeel$Boxes", "place", "LCargoHeel$Row;", true)
  | _ => ("CargoHeel$Boxes", "count", "I", false)
def tyX0 : Nat → FieldType := fun k => match k with
  | 0 => .object "CargoHeel$Row"
  | 1 => .object "CargoHeel$Row"
  | 2 => .object "CargoHeel$Row"
  | 3 => .object "CargoHeel$Row"
  | 4 => .object "CargoHeel$Row"
  | 5 => .object "CargoHeel$Row"
  | 6 => .object "CargoHeel$Row"
  | _ => .int
abbrev wsX00 : List Cond := u_ws RX0 TX0 8
theorem nmX0 : ∀ a, a < 8 → ∀ b, b < 8 → a ≠ b → (TX0 a).2.1 ≠ (TX0 b).2.1 := by decide +kernel
theorem tyX0_ok : ∀ k, k < 8 → parseFieldDescriptor (TX0 k).2.2.1 = some (tyX0 k) := by decide +kernel
abbrev cX0_init : ByteArray := prog_2_method_1_code
def yX0_init : MethodName := ⟨RX0, "<init>", "()V"⟩
abbrev cX0_come : ByteArray := prog_2_method_2_code
def yX0_come : MethodName := ⟨RX0, "come", "(IIII)I"⟩
abbrev cX0_isHeld : ByteArray := prog_2_method_3_code
def yX0_isHeld : MethodName := ⟨RX0, "isHeld", "(I)Z"⟩
abbrev cX0_mayCarry : ByteArray := prog_2_method_4_code
def yX0_mayCarry : MethodName := ⟨RX0, "mayCarry", "(II)Z"⟩
abbrev cX0_move : ByteArray := prog_2_method_5_code
def yX0_move : MethodName := ⟨RX0, "move", "(III)V"⟩
def RX1 : String := "CargoHeel$Cranes"
def TX1 : u_T := fun k => match k with
  | 0 => ("CargoHeel$Cranes", "from", "LCargoHeel$Row;", true)
  | 1 => ("CargoHeel$Cranes", "to", "LCargoHeel$Row;", true)
  | _ => ("CargoHeel$Cranes", "lifts", "LCargoHeel$Row;", true)
def tyX1 : Nat → FieldType := fun k => match k with
  | 0 => .object "CargoHeel$Row"
  | 1 => .object "CargoHeel$Row"
  | _ => .object "CargoHeel$Row"
abbrev wsX10 : List Cond := u_ws RX1 TX1 3
theorem nmX1 : ∀ a, a < 3 → ∀ b, b < 3 → a ≠ b → (TX1 a).2.1 ≠ (TX1 b).2.1 := by decide +kernel
theorem tyX1_ok : ∀ k, k < 3 → parseFieldDescriptor (TX1 k).2.2.1 = some (tyX1 k) := by decide +kernel
abbrev cX1_init : ByteArray := prog_3_method_1_code
def yX1_init : MethodName := ⟨RX1, "<init>", "()V"⟩
abbrev cX1_reaches : ByteArray := prog_3_method_2_code
def yX1_reaches : MethodName := ⟨RX1, "reaches", "(II)Z"⟩
def RX2 : String := "CargoHeel$Queue"
def TX2 : u_T := fun k => match k with
  | 0 => ("CargoHeel$Queue", "what", "LCargoHeel$Row;", true)
  | 1 => ("CargoHeel$Queue", "its", "LCargoHeel$Row;", true)
  | 2 => ("CargoHeel$Queue", "place", "LCargoHeel$Row;", true)
  | _ => ("CargoHeel$Queue", "count", "I", false)
def tyX2 : Nat → FieldType := fun k => match k with
  | 0 => .object "CargoHeel$Row"
  | 1 => .object "CargoHeel$Row"
  | 2 => .object "CargoHeel$Row"
  | _ => .int
abbrev wsX20 : List Cond := u_ws RX2 TX2 4
theorem nmX2 : ∀ a, a < 4 → ∀ b, b < 4 → a ≠ b → (TX2 a).2.1 ≠ (TX2 b).2.1 := by decide +kernel
theorem tyX2_ok : ∀ k, k < 4 → parseFieldDescriptor (TX2 k).2.2.1 = some (tyX2 k) := by decide +kernel
abbrev cX2_init : ByteArray := prog_4_method_1_code
def yX2_init : MethodName := ⟨RX2, "<init>", "()V"⟩
abbrev cX2_append : ByteArray := prog_4_method_2_code
def yX2_append : MethodName := ⟨RX2, "append", "(III)V"⟩
abbrev cX2_remove : ByteArray := prog_4_method_3_code
def yX2_remove : MethodName := ⟨RX2, "remove", "(I)V"⟩
def RX3 : String := "CargoHeel$Row"
def TX3 : u_T := fun k => match k with
  | _ => ("CargoHeel$Row", "cells", "[I", true)
def tyX3 : Nat → FieldType := fun k => match k with
  | _ => .array .int
abbrev wsX30 : List Cond := u_ws RX3 TX3 1
theorem nmX3 : ∀ a, a < 1 → ∀ b, b < 1 → a ≠ b → (TX3 a).2.1 ≠ (TX3 b).2.1 := by decide +kernel
theorem tyX3_ok : ∀ k, k < 1 → parseFieldDescriptor (TX3 k).2.2.1 = some (tyX3 k) := by decide +kernel
abbrev cX3_init : ByteArray := prog_5_method_1_code
def yX3_init : MethodName := ⟨RX3, "<init>", "(II)V"⟩
abbrev cX3_get : ByteArray := prog_5_method_2_code
def yX3_get : MethodName := ⟨RX3, "get", "(I)I"⟩
abbrev cX3_set : ByteArray := prog_5_method_3_code
def yX3_set : MethodName := ⟨RX3, "set", "(II)V"⟩
abbrev cX3_add : ByteArray := prog_5_method_4_code
def yX3_add : MethodName := ⟨RX3, "add", "(II)V"⟩
abbrev cX3_fill : ByteArray := prog_5_method_5_code
def yX3_fill : MethodName := ⟨RX3, "fill", "(I)V"⟩
def RX4 : String := "CargoHeel$Ship"
def TX4 : u_T := fun k => match k with
  | 0 => ("CargoHeel$Ship", "open", "LCargoHeel$Row;", true)
  | 1 => ("CargoHeel$Ship", "jammedTill", "LCargoHeel$Row;", true)
  | 2 => ("CargoHeel$Ship", "water", "LCargoHeel$Row;", true)
  | 3 => ("CargoHeel$Ship", "load", "LCargoHeel$Row;", true)
  | 4 => ("CargoHeel$Ship", "heel", "I", false)
  | 5 => ("CargoHeel$Ship", "held", "LCargoHeel$Row;", true)
  | _ => ("CargoHeel$Ship", "plugs", "LCargoHeel$Row;", true)
def tyX4 : Nat → FieldType := fun k => match k with
  | 0 => .object "CargoHeel$Row"
  | 1 => .object "CargoHeel$Row"
  | 2 => .object "CargoHeel$Row"
  | 3 => .object "CargoHeel$Row"
  | 4 => .int
  | 5 => .object "CargoHeel$Row"
  | _ => .object "CargoHeel$Row"
abbrev wsX40 : List Cond := u_ws RX4 TX4 7
theorem nmX4 : ∀ a, a < 7 → ∀ b, b < 7 → a ≠ b → (TX4 a).2.1 ≠ (TX4 b).2.1 := by decide +kernel
theorem tyX4_ok : ∀ k, k < 7 → parseFieldDescriptor (TX4 k).2.2.1 = some (tyX4 k) := by decide +kernel
abbrev cX4_init : ByteArray := prog_6_method_1_code
def yX4_init : MethodName := ⟨RX4, "<init>", "()V"⟩
abbrev cX4_cellOf : ByteArray := prog_6_method_2_code
def yX4_cellOf : MethodName := ⟨RX4, "cellOf", "(I)I"⟩
abbrev cX4_boxIn : ByteArray := prog_6_method_3_code
def yX4_boxIn : MethodName := ⟨RX4, "boxIn", "(I)I"⟩
abbrev cX4_boxOver : ByteArray := prog_6_method_4_code
def yX4_boxOver : MethodName := ⟨RX4, "boxOver", "(I)I"⟩
abbrev cX4_boxesOnTop : ByteArray := prog_6_method_5_code
def yX4_boxesOnTop : MethodName := ⟨RX4, "boxesOnTop", "(I)I"⟩
abbrev cX4_isOpen : ByteArray := prog_6_method_6_code
def yX4_isOpen : MethodName := ⟨RX4, "isOpen", "(I)Z"⟩
abbrev cX4_hasPlug : ByteArray := prog_6_method_7_code
def yX4_hasPlug : MethodName := ⟨RX4, "hasPlug", "(I)Z"⟩
abbrev cX4_turnPlug : ByteArray := prog_6_method_8_code
def yX4_turnPlug : MethodName := ⟨RX4, "turnPlug", "(I)V"⟩
abbrev cX4_put : ByteArray := prog_6_method_9_code
def yX4_put : MethodName := ⟨RX4, "put", "(III)V"⟩
abbrev cX4_take : ByteArray := prog_6_method_10_code
def yX4_take : MethodName := ⟨RX4, "take", "(II)V"⟩
abbrev cX4_addWeight : ByteArray := prog_6_method_11_code
def yX4_addWeight : MethodName := ⟨RX4, "addWeight", "(II)V"⟩
def RX5 : String := "CargoHeel$Yard"
def TX5 : u_T := fun k => match k with
  | 0 => ("CargoHeel$Yard", "height", "LCargoHeel$Row;", true)
  | _ => ("CargoHeel$Yard", "held", "LCargoHeel$Row;", true)
def tyX5 : Nat → FieldType := fun k => match k with
  | 0 => .object "CargoHeel$Row"
  | _ => .object "CargoHeel$Row"
abbrev wsX50 : List Cond := u_ws RX5 TX5 2
theorem nmX5 : ∀ a, a < 2 → ∀ b, b < 2 → a ≠ b → (TX5 a).2.1 ≠ (TX5 b).2.1 := by decide +kernel
theorem tyX5_ok : ∀ k, k < 2 → parseFieldDescriptor (TX5 k).2.2.1 = some (tyX5 k) := by decide +kernel
abbrev cX5_init : ByteArray := prog_7_method_1_code
def yX5_init : MethodName := ⟨RX5, "<init>", "()V"⟩
abbrev cX5_boxIn : ByteArray := prog_7_method_2_code
def yX5_boxIn : MethodName := ⟨RX5, "boxIn", "(II)I"⟩
abbrev cX5_topOf : ByteArray := prog_7_method_3_code
def yX5_topOf : MethodName := ⟨RX5, "topOf", "(I)I"⟩
abbrev cX5_boxesOver : ByteArray := prog_7_method_4_code
def yX5_boxesOver : MethodName := ⟨RX5, "boxesOver", "(II)I"⟩
abbrev cX5_put : ByteArray := prog_7_method_5_code
def yX5_put : MethodName := ⟨RX5, "put", "(II)V"⟩
abbrev cX5_takeTop : ByteArray := prog_7_method_6_code
def yX5_takeTop : MethodName := ⟨RX5, "takeTop", "(I)V"⟩
abbrev cX5_clear : ByteArray := prog_7_method_7_code
def yX5_clear : MethodName := ⟨RX5, "clear", "()V"⟩
def RX6 : String := "CargoHeel"
def TX6 : u_T := fun k => match k with
  | 0 => ("CargoHeel", "boxes", "LCargoHeel$Boxes;", true)
  | 1 => ("CargoHeel", "yard", "LCargoHeel$Yard;", true)
  | 2 => ("CargoHeel", "ship", "LCargoHeel$Ship;", true)
  | 3 => ("CargoHeel", "queue", "LCargoHeel$Queue;", true)
  | 4 => ("CargoHeel", "cranes", "LCargoHeel$Cranes;", true)
  | 5 => ("CargoHeel", "leftOut", "LCargoHeel$Row;", true)
  | 6 => ("CargoHeel", "hour", "I", false)
  | 7 => ("CargoHeel", "port", "I", false)
  | 8 => ("CargoHeel", "paid", "I", false)
  | 9 => ("CargoHeel", "trimBound", "I", false)
  | 10 => ("CargoHeel", "heelBound", "I", false)
  | _ => ("CargoHeel", "bendingBound", "I", false)
def tyX6 : Nat → FieldType := fun k => match k with
  | 0 => .object "CargoHeel$Boxes"
  | 1 => .object "CargoHeel$Yard"
  | 2 => .object "CargoHeel$Ship"
  | 3 => .object "CargoHeel$Queue"
  | 4 => .object "CargoHeel$Cranes"
  | 5 => .object "CargoHeel$Row"
  | 6 => .int
  | 7 => .int
  | 8 => .int
  | 9 => .int
  | 10 => .int
  | _ => .int
abbrev wsX60 : List Cond := u_ws RX6 TX6 12
theorem nmX6 : ∀ a, a < 12 → ∀ b, b < 12 → a ≠ b → (TX6 a).2.1 ≠ (TX6 b).2.1 := by decide +kernel
theorem tyX6_ok : ∀ k, k < 12 → parseFieldDescriptor (TX6 k).2.2.1 = some (tyX6 k) := by decide +kernel
abbrev cX6_init : ByteArray := prog_1_method_1_code
def yX6_init : MethodName := ⟨RX6, "<init>", "()V"⟩
abbrev cX6_plug : ByteArray := prog_1_method_2_code
def yX6_plug : MethodName := ⟨RX6, "plug", "(I)Z"⟩
abbrev cX6_bounds : ByteArray := prog_1_method_3_code
def yX6_bounds : MethodName := ⟨RX6, "bounds", "(III)V"⟩
abbrev cX6_tank : ByteArray := prog_1_method_4_code
def yX6_tank : MethodName := ⟨RX6, "tank", "(II)I"⟩
abbrev cX6_jam : ByteArray := prog_1_method_5_code
def yX6_jam : MethodName := ⟨RX6, "jam", "(II)I"⟩
abbrev cX6_crane : ByteArray := prog_1_method_6_code
def yX6_crane : MethodName := ⟨RX6, "crane", "(IIII)V"⟩
abbrev cX6_box : ByteArray := prog_1_method_7_code
def yX6_box : MethodName := ⟨RX6, "box", "(IIIII)I"⟩
abbrev cX6_paper : ByteArray := prog_1_method_8_code
def yX6_paper : MethodName := ⟨RX6, "paper", "(II)Z"⟩
abbrev cX6_skip : ByteArray := prog_1_method_9_code
def yX6_skip : MethodName := ⟨RX6, "skip", "(I)I"⟩
abbrev cX6_order : ByteArray := prog_1_method_10_code
def yX6_order : MethodName := ⟨RX6, "order", "(III)I"⟩
abbrev cX6_drop : ByteArray := prog_1_method_11_code
def yX6_drop : MethodName := ⟨RX6, "drop", "(I)I"⟩
abbrev cX6_pass : ByteArray := prog_1_method_12_code
def yX6_pass : MethodName := ⟨RX6, "pass", "(I)I"⟩
abbrev cX6_leave : ByteArray := prog_1_method_13_code
def yX6_leave : MethodName := ⟨RX6, "leave", "()I"⟩
abbrev cX6_hour : ByteArray := prog_1_method_14_code
def yX6_hour : MethodName := ⟨RX6, "hour", "()I"⟩
abbrev cX6_port : ByteArray := prog_1_method_15_code
def yX6_port : MethodName := ⟨RX6, "port", "()I"⟩
abbrev cX6_cost : ByteArray := prog_1_method_16_code
def yX6_cost : MethodName := ⟨RX6, "cost", "()I"⟩
abbrev cX6_of : ByteArray := prog_1_method_17_code
def yX6_of : MethodName := ⟨RX6, "of", "(II)I"⟩
abbrev cX6_at : ByteArray := prog_1_method_18_code
def yX6_at : MethodName := ⟨RX6, "at", "(I)I"⟩
abbrev cX6_inYard : ByteArray := prog_1_method_19_code
def yX6_inYard : MethodName := ⟨RX6, "inYard", "(II)I"⟩
abbrev cX6_hatch : ByteArray := prog_1_method_20_code
def yX6_hatch : MethodName := ⟨RX6, "hatch", "(I)I"⟩
abbrev cX6_moment : ByteArray := prog_1_method_21_code
def yX6_moment : MethodName := ⟨RX6, "moment", "(I)I"⟩
abbrev cX6_momentAnew : ByteArray := prog_1_method_22_code
def yX6_momentAnew : MethodName := ⟨RX6, "momentAnew", "(I)I"⟩
abbrev cX6_bars : ByteArray := prog_1_method_23_code
def yX6_bars : MethodName := ⟨RX6, "bars", "()I"⟩
abbrev cX6_dig : ByteArray := prog_1_method_24_code
def yX6_dig : MethodName := ⟨RX6, "dig", "(I)I"⟩
abbrev cX6_orders : ByteArray := prog_1_method_25_code
def yX6_orders : MethodName := ⟨RX6, "orders", "()I"⟩
abbrev cX6_can : ByteArray := prog_1_method_26_code
def yX6_can : MethodName := ⟨RX6, "can", "(II)Z"⟩
abbrev cX6_may : ByteArray := prog_1_method_27_code
def yX6_may : MethodName := ⟨RX6, "may", "(II)Z"⟩
abbrev cX6_isWithin : ByteArray := prog_1_method_28_code
def yX6_isWithin : MethodName := ⟨RX6, "isWithin", "(III)Z"⟩
abbrev cX6_isBay : ByteArray := prog_1_method_29_code
def yX6_isBay : MethodName := ⟨RX6, "isBay", "(I)Z"⟩
abbrev cX6_isSlot : ByteArray := prog_1_method_30_code
def yX6_isSlot : MethodName := ⟨RX6, "isSlot", "(I)Z"⟩
abbrev cX6_isStack : ByteArray := prog_1_method_31_code
def yX6_isStack : MethodName := ⟨RX6, "isStack", "(I)Z"⟩
abbrev cX6_isCrane : ByteArray := prog_1_method_32_code
def yX6_isCrane : MethodName := ⟨RX6, "isCrane", "(I)Z"⟩
abbrev cX6_isBox : ByteArray := prog_1_method_33_code
def yX6_isBox : MethodName := ⟨RX6, "isBox", "(I)Z"⟩
abbrev cX6_isOrder : ByteArray := prog_1_method_34_code
def yX6_isOrder : MethodName := ⟨RX6, "isOrder", "(I)Z"⟩
abbrev cX6_bayOf : ByteArray := prog_1_method_35_code
def yX6_bayOf : MethodName := ⟨RX6, "bayOf", "(I)I"⟩
abbrev cX6_rowOf : ByteArray := prog_1_method_36_code
def yX6_rowOf : MethodName := ⟨RX6, "rowOf", "(I)I"⟩
abbrev cX6_tierOf : ByteArray := prog_1_method_37_code
def yX6_tierOf : MethodName := ⟨RX6, "tierOf", "(I)I"⟩
abbrev cX6_isUnderHatch : ByteArray := prog_1_method_38_code
def yX6_isUnderHatch : MethodName := ⟨RX6, "isUnderHatch", "(I)Z"⟩
abbrev cX6_restsOnBox : ByteArray := prog_1_method_39_code
def yX6_restsOnBox : MethodName := ⟨RX6, "restsOnBox", "(I)Z"⟩
abbrev cX6_isAhead : ByteArray := prog_1_method_40_code
def yX6_isAhead : MethodName := ⟨RX6, "isAhead", "(I)Z"⟩
abbrev cX6_portBehind : ByteArray := prog_1_method_41_code
def yX6_portBehind : MethodName := ⟨RX6, "portBehind", "(I)I"⟩
abbrev cX6_overdueBoxes : ByteArray := prog_1_method_42_code
def yX6_overdueBoxes : MethodName := ⟨RX6, "overdueBoxes", "()I"⟩
abbrev cX6_mayBeStacked : ByteArray := prog_1_method_43_code
def yX6_mayBeStacked : MethodName := ⟨RX6, "mayBeStacked", "(II)Z"⟩
abbrev cX6_mayBeIn : ByteArray := prog_1_method_44_code
def yX6_mayBeIn : MethodName := ⟨RX6, "mayBeIn", "(II)Z"⟩
abbrev cX6_isApartIn : ByteArray := prog_1_method_45_code
def yX6_isApartIn : MethodName := ⟨RX6, "isApartIn", "(II)Z"⟩
abbrev cX6_boxesOn : ByteArray := prog_1_method_46_code
def yX6_boxesOn : MethodName := ⟨RX6, "boxesOn", "(I)I"⟩
abbrev cX6_putInYard : ByteArray := prog_1_method_47_code
def yX6_putInYard : MethodName := ⟨RX6, "putInYard", "(II)V"⟩
abbrev cX6_putOnShip : ByteArray := prog_1_method_48_code
def yX6_putOnShip : MethodName := ⟨RX6, "putOnShip", "(II)V"⟩
abbrev cX6_takeAway : ByteArray := prog_1_method_49_code
def yX6_takeAway : MethodName := ⟨RX6, "takeAway", "(I)V"⟩
abbrev cX6_momentKept : ByteArray := prog_1_method_50_code
def yX6_momentKept : MethodName := ⟨RX6, "momentKept", "(I)I"⟩
abbrev cX6_leverOf : ByteArray := prog_1_method_51_code
def yX6_leverOf : MethodName := ⟨RX6, "leverOf", "(II)I"⟩
abbrev cX6_isJammed : ByteArray := prog_1_method_52_code
def yX6_isJammed : MethodName := ⟨RX6, "isJammed", "(I)Z"⟩
abbrev cX6_canDo : ByteArray := prog_1_method_53_code
def yX6_canDo : MethodName := ⟨RX6, "canDo", "(II)Z"⟩
abbrev cX6_canLoad : ByteArray := prog_1_method_54_code
def yX6_canLoad : MethodName := ⟨RX6, "canLoad", "(I)Z"⟩
abbrev cX6_canTake : ByteArray := prog_1_method_55_code
def yX6_canTake : MethodName := ⟨RX6, "canTake", "(II)Z"⟩
abbrev cX6_workAnHour : ByteArray := prog_1_method_56_code
def yX6_workAnHour : MethodName := ⟨RX6, "workAnHour", "(I)I"⟩
abbrev cX6_firstFor : ByteArray := prog_1_method_57_code
def yX6_firstFor : MethodName := ⟨RX6, "firstFor", "(I)I"⟩
abbrev cX6_lift : ByteArray := prog_1_method_58_code
def yX6_lift : MethodName := ⟨RX6, "lift", "(III)V"⟩
def RX7 : String := "CargoHeelModel"
def TX7 : u_T := fun k => match k with
  | 0 => ("CargoHeelModel", "thrown", "I", false)
  | 1 => ("CargoHeelModel", "slot", "[I", true)
  | 2 => ("CargoHeelModel", "hasPlug", "[Z", true)
  | 3 => ("CargoHeelModel", "isOpen", "[Z", true)
  | 4 => ("CargoHeelModel", "jammedTo", "[I", true)
  | 5 => ("CargoHeelModel", "water", "[I", true)
  | 6 => ("CargoHeelModel", "mostTrim", "I", false)
  | 7 => ("CargoHeelModel", "mostHeel", "I", false)
  | 8 => ("CargoHeelModel", "mostBending", "I", false)
  | 9 => ("CargoHeelModel", "boxes", "I", false)
  | 10 => ("CargoHeelModel", "told", "[I", true)
  | 11 => ("CargoHeelModel", "truth", "[I", true)
  | 12 => ("CargoHeelModel", "port", "[I", true)
  | 13 => ("CargoHeelModel", "kind", "[I", true)
  | 14 => ("CargoHeelModel", "papers", "[I", true)
  | 15 => ("CargoHeelModel", "where", "[I", true)
  | 16 => ("CargoHeelModel", "place", "[I", true)
  | 17 => ("CargoHeelModel", "high", "[I", true)
  | 18 => ("CargoHeelModel", "stack", "[I", true)
  | 19 => ("CargoHeelModel", "now", "I", false)
  | 20 => ("CargoHeelModel", "isOut", "[Z", true)
  | 21 => ("CargoHeelModel", "from", "[I", true)
  | 22 => ("CargoHeelModel", "to", "[I", true)
  | 23 => ("CargoHeelModel", "lifts", "[I", true)
  | 24 => ("CargoHeelModel", "orders", "I", false)
  | 25 => ("CargoHeelModel", "what", "[I", true)
  | 26 => ("CargoHeelModel", "its", "[I", true)
  | 27 => ("CargoHeelModel", "goal", "[I", true)
  | 28 => ("CargoHeelModel", "hour", "I", false)
  | 29 => ("CargoHeelModel", "cost", "I", false)
  | _ => ("CargoHeelModel", "load", "[I", true)
def tyX7 : Nat → FieldType := fun k => match k with
  | 0 => .int
  | 1 => .array .int
  | 2 => .array .boolean
  | 3 => .array .boolean
  | 4 => .array .int
  | 5 => .array .int
  | 6 => .int
  | 7 => .int
  | 8 => .int
  | 9 => .int
  | 10 => .array .int
  | 11 => .array .int
  | 12 => .array .int
  | 13 => .array .int
  | 14 => .array .int
  | 15 => .array .int
  | 16 => .array .int
  | 17 => .array .int
  | 18 => .array .int
  | 19 => .int
  | 20 => .array .boolean
  | 21 => .array .int
  | 22 => .array .int
  | 23 => .array .int
  | 24 => .int
  | 25 => .array .int
  | 26 => .array .int
  | 27 => .array .int
  | 28 => .int
  | 29 => .int
  | _ => .array .int
abbrev wsX70 : List Cond := u_ws RX7 TX7 31
theorem nmX7 : ∀ a, a < 31 → ∀ b, b < 31 → a ≠ b → (TX7 a).2.1 ≠ (TX7 b).2.1 := by decide +kernel
theorem tyX7_ok : ∀ k, k < 31 → parseFieldDescriptor (TX7 k).2.2.1 = some (tyX7 k) := by decide +kernel
abbrev cX7_init : ByteArray := prog_9_method_1_code
def yX7_init : MethodName := ⟨RX7, "<init>", "()V"⟩
abbrev cX7_thrown : ByteArray := prog_9_method_2_code
def yX7_thrown : MethodName := ⟨RX7, "thrown", "()I"⟩
abbrev cX7_in : ByteArray := prog_9_method_3_code
def yX7_in : MethodName := ⟨RX7, "in", "(III)Z"⟩
abbrev cX7_isSlot : ByteArray := prog_9_method_4_code
def yX7_isSlot : MethodName := ⟨RX7, "isSlot", "(I)Z"⟩
abbrev cX7_indexOf : ByteArray := prog_9_method_5_code
def yX7_indexOf : MethodName := ⟨RX7, "indexOf", "(I)I"⟩
abbrev cX7_isBay : ByteArray := prog_9_method_6_code
def yX7_isBay : MethodName := ⟨RX7, "isBay", "(I)Z"⟩
abbrev cX7_isStack : ByteArray := prog_9_method_7_code
def yX7_isStack : MethodName := ⟨RX7, "isStack", "(I)Z"⟩
abbrev cX7_isCrane : ByteArray := prog_9_method_8_code
def yX7_isCrane : MethodName := ⟨RX7, "isCrane", "(I)Z"⟩
abbrev cX7_isBox : ByteArray := prog_9_method_9_code
def yX7_isBox : MethodName := ⟨RX7, "isBox", "(I)Z"⟩
abbrev cX7_isOrder : ByteArray := prog_9_method_10_code
def yX7_isOrder : MethodName := ⟨RX7, "isOrder", "(I)Z"⟩
abbrev cX7_isAhead : ByteArray := prog_9_method_11_code
def yX7_isAhead : MethodName := ⟨RX7, "isAhead", "(I)Z"⟩
abbrev cX7_isHeld : ByteArray := prog_9_method_12_code
def yX7_isHeld : MethodName := ⟨RX7, "isHeld", "(I)Z"⟩
abbrev cX7_plug : ByteArray := prog_9_method_13_code
def yX7_plug : MethodName := ⟨RX7, "plug", "(I)Z"⟩
abbrev cX7_bounds : ByteArray := prog_9_method_14_code
def yX7_bounds : MethodName := ⟨RX7, "bounds", "(III)V"⟩
abbrev cX7_tank : ByteArray := prog_9_method_15_code
def yX7_tank : MethodName := ⟨RX7, "tank", "(II)I"⟩
abbrev cX7_jam : ByteArray := prog_9_method_16_code
def yX7_jam : MethodName := ⟨RX7, "jam", "(II)I"⟩
abbrev cX7_crane : ByteArray := prog_9_method_17_code
def yX7_crane : MethodName := ⟨RX7, "crane", "(IIII)V"⟩
abbrev cX7_hasOnTop : ByteArray := prog_9_method_18_code
def yX7_hasOnTop : MethodName := ⟨RX7, "hasOnTop", "(I)Z"⟩
abbrev cX7_canOpen : ByteArray := prog_9_method_19_code
def yX7_canOpen : MethodName := ⟨RX7, "canOpen", "(I)Z"⟩
abbrev cX7_fits : ByteArray := prog_9_method_20_code
def yX7_fits : MethodName := ⟨RX7, "fits", "(II)Z"⟩
abbrev cX7_stackMay : ByteArray := prog_9_method_21_code
def yX7_stackMay : MethodName := ⟨RX7, "stackMay", "(II)Z"⟩
abbrev cX7_isDangerous : ByteArray := prog_9_method_22_code
def yX7_isDangerous : MethodName := ⟨RX7, "isDangerous", "(I)Z"⟩
abbrev cX7_isApart : ByteArray := prog_9_method_23_code
def yX7_isApart : MethodName := ⟨RX7, "isApart", "(II)Z"⟩
abbrev cX7_slotMay : ByteArray := prog_9_method_24_code
def yX7_slotMay : MethodName := ⟨RX7, "slotMay", "(II)Z"⟩
abbrev cX7_canTake : ByteArray := prog_9_method_25_code
def yX7_canTake : MethodName := ⟨RX7, "canTake", "(I)Z"⟩
abbrev cX7_isOnTop : ByteArray := prog_9_method_26_code
def yX7_isOnTop : MethodName := ⟨RX7, "isOnTop", "(I)Z"⟩
abbrev cX7_box : ByteArray := prog_9_method_27_code
def yX7_box : MethodName := ⟨RX7, "box", "(IIIII)I"⟩
abbrev cX7_comesTo : ByteArray := prog_9_method_28_code
def yX7_comesTo : MethodName := ⟨RX7, "comesTo", "(II)V"⟩
abbrev cX7_comesAboard : ByteArray := prog_9_method_29_code
def yX7_comesAboard : MethodName := ⟨RX7, "comesAboard", "(II)V"⟩
abbrev cX7_paper : ByteArray := prog_9_method_30_code
def yX7_paper : MethodName := ⟨RX7, "paper", "(II)Z"⟩
abbrev cX7_nextPort : ByteArray := prog_9_method_31_code
def yX7_nextPort : MethodName := ⟨RX7, "nextPort", "(I)I"⟩
abbrev cX7_skip : ByteArray := prog_9_method_32_code
def yX7_skip : MethodName := ⟨RX7, "skip", "(I)I"⟩
abbrev cX7_order : ByteArray := prog_9_method_33_code
def yX7_order : MethodName := ⟨RX7, "order", "(III)I"⟩
abbrev cX7_removes : ByteArray := prog_9_method_34_code
def yX7_removes : MethodName := ⟨RX7, "removes", "(I)V"⟩
abbrev cX7_drop : ByteArray := prog_9_method_35_code
def yX7_drop : MethodName := ⟨RX7, "drop", "(I)I"⟩
abbrev cX7_isPossible : ByteArray := prog_9_method_36_code
def yX7_isPossible : MethodName := ⟨RX7, "isPossible", "(I)Z"⟩
abbrev cX7_isWithin : ByteArray := prog_9_method_37_code
def yX7_isWithin : MethodName := ⟨RX7, "isWithin", "(II)Z"⟩
abbrev cX7_reaches : ByteArray := prog_9_method_38_code
def yX7_reaches : MethodName := ⟨RX7, "reaches", "(II)Z"⟩
abbrev cX7_isDoable : ByteArray := prog_9_method_39_code
def yX7_isDoable : MethodName := ⟨RX7, "isDoable", "(II)Z"⟩
abbrev cX7_does : ByteArray := prog_9_method_40_code
def yX7_does : MethodName := ⟨RX7, "does", "(I)V"⟩
abbrev cX7_liftsOf : ByteArray := prog_9_method_41_code
def yX7_liftsOf : MethodName := ⟨RX7, "liftsOf", "(I)I"⟩
abbrev cX7_pass : ByteArray := prog_9_method_42_code
def yX7_pass : MethodName := ⟨RX7, "pass", "(I)I"⟩
abbrev cX7_leave : ByteArray := prog_9_method_43_code
def yX7_leave : MethodName := ⟨RX7, "leave", "()I"⟩
abbrev cX7_hour : ByteArray := prog_9_method_44_code
def yX7_hour : MethodName := ⟨RX7, "hour", "()I"⟩
abbrev cX7_port : ByteArray := prog_9_method_45_code
def yX7_port : MethodName := ⟨RX7, "port", "()I"⟩
abbrev cX7_cost : ByteArray := prog_9_method_46_code
def yX7_cost : MethodName := ⟨RX7, "cost", "()I"⟩
abbrev cX7_slotOf : ByteArray := prog_9_method_47_code
def yX7_slotOf : MethodName := ⟨RX7, "slotOf", "(I)I"⟩
abbrev cX7_liesOn : ByteArray := prog_9_method_48_code
def yX7_liesOn : MethodName := ⟨RX7, "liesOn", "(I)I"⟩
abbrev cX7_of : ByteArray := prog_9_method_49_code
def yX7_of : MethodName := ⟨RX7, "of", "(II)I"⟩
abbrev cX7_at : ByteArray := prog_9_method_50_code
def yX7_at : MethodName := ⟨RX7, "at", "(I)I"⟩
abbrev cX7_inYard : ByteArray := prog_9_method_51_code
def yX7_inYard : MethodName := ⟨RX7, "inYard", "(II)I"⟩
abbrev cX7_hatch : ByteArray := prog_9_method_52_code
def yX7_hatch : MethodName := ⟨RX7, "hatch", "(I)I"⟩
abbrev cX7_momentOf : ByteArray := prog_9_method_53_code
def yX7_momentOf : MethodName := ⟨RX7, "momentOf", "(I)I"⟩
abbrev cX7_moment : ByteArray := prog_9_method_54_code
def yX7_moment : MethodName := ⟨RX7, "moment", "(I)I"⟩
abbrev cX7_momentAnew : ByteArray := prog_9_method_55_code
def yX7_momentAnew : MethodName := ⟨RX7, "momentAnew", "(I)I"⟩
abbrev cX7_isBeyond : ByteArray := prog_9_method_56_code
def yX7_isBeyond : MethodName := ⟨RX7, "isBeyond", "(II)Z"⟩
abbrev cX7_barsNow : ByteArray := prog_9_method_57_code
def yX7_barsNow : MethodName := ⟨RX7, "barsNow", "()I"⟩
abbrev cX7_bars : ByteArray := prog_9_method_58_code
def yX7_bars : MethodName := ⟨RX7, "bars", "()I"⟩
abbrev cX7_dig : ByteArray := prog_9_method_59_code
def yX7_dig : MethodName := ⟨RX7, "dig", "(I)I"⟩
abbrev cX7_orders : ByteArray := prog_9_method_60_code
def yX7_orders : MethodName := ⟨RX7, "orders", "()I"⟩
abbrev cX7_can : ByteArray := prog_9_method_61_code
def yX7_can : MethodName := ⟨RX7, "can", "(II)Z"⟩
abbrev cX7_may : ByteArray := prog_9_method_62_code
def yX7_may : MethodName := ⟨RX7, "may", "(II)Z"⟩
def RJ9 : String := "java/lang/Math"
def TJ9 : u_T := fun k => match k with
  | _ => ("", "", "", false)
def tyJ9 : Nat → FieldType := fun k => match k with
  | _ => .int
abbrev wsJ90 : List Cond := u_ws RJ9 TJ9 0
theorem nmJ9 : ∀ a, a < 0 → ∀ b, b < 0 → a ≠ b → (TJ9 a).2.1 ≠ (TJ9 b).2.1 := by decide +kernel
theorem tyJ9_ok : ∀ k, k < 0 → parseFieldDescriptor (TJ9 k).2.2.1 = some (tyJ9 k) := by decide +kernel
abbrev cJ9_abs_0f7a4 : ByteArray := prog_14_method_59_code
def yJ9_abs_0f7a4 : MethodName := ⟨RJ9, "abs", "(I)I"⟩
abbrev cJ9_max_7cf53 : ByteArray := prog_14_method_65_code
def yJ9_max_7cf53 : MethodName := ⟨RJ9, "max", "(II)I"⟩
def RJ0 : String := "java/lang/String"
def TJ0 : u_T := fun k => match k with
  | _ => ("", "", "", false)
def tyJ0 : Nat → FieldType := fun k => match k with
  | _ => .int
abbrev wsJ00 : List Cond := u_ws RJ0 TJ0 0
theorem nmJ0 : ∀ a, a < 0 → ∀ b, b < 0 → a ≠ b → (TJ0 a).2.1 ≠ (TJ0 b).2.1 := by decide +kernel
theorem tyJ0_ok : ∀ k, k < 0 → parseFieldDescriptor (TJ0 k).2.2.1 = some (tyJ0 k) := by decide +kernel
def RL : String := "CargoHeelLaw"
abbrev cL_plug : ByteArray := method_3_code
def yL_plug : MethodName := ⟨RL, "plug", "(LCargoHeel;I[J)I"⟩
abbrev cL_bounds : ByteArray := method_4_code
def yL_bounds : MethodName := ⟨RL, "bounds", "(LCargoHeel;III)I"⟩
abbrev cL_tank : ByteArray := method_5_code
def yL_tank : MethodName := ⟨RL, "tank", "(LCargoHeel;II[J)I"⟩
abbrev cL_jam : ByteArray := method_6_code
def yL_jam : MethodName := ⟨RL, "jam", "(LCargoHeel;II[J)I"⟩
abbrev cL_crane : ByteArray := method_7_code
def yL_crane : MethodName := ⟨RL, "crane", "(LCargoHeel;IIII)I"⟩
abbrev cL_box : ByteArray := method_8_code
def yL_box : MethodName := ⟨RL, "box", "(LCargoHeel;IIIII[J)I"⟩
abbrev cL_paper : ByteArray := method_9_code
def yL_paper : MethodName := ⟨RL, "paper", "(LCargoHeel;II[J)I"⟩
abbrev cL_skip : ByteArray := method_10_code
def yL_skip : MethodName := ⟨RL, "skip", "(LCargoHeel;I[J)I"⟩
abbrev cL_order : ByteArray := method_11_code
def yL_order : MethodName := ⟨RL, "order", "(LCargoHeel;III[J)I"⟩
abbrev cL_drop : ByteArray := method_12_code
def yL_drop : MethodName := ⟨RL, "drop", "(LCargoHeel;I[J)I"⟩
abbrev cL_pass : ByteArray := method_13_code
def yL_pass : MethodName := ⟨RL, "pass", "(LCargoHeel;I[J)I"⟩
abbrev cL_leave : ByteArray := method_14_code
def yL_leave : MethodName := ⟨RL, "leave", "(LCargoHeel;[J)I"⟩
abbrev cL_of : ByteArray := method_15_code
def yL_of : MethodName := ⟨RL, "of", "(LCargoHeel;II[J)I"⟩
abbrev cL_at : ByteArray := method_16_code
def yL_at : MethodName := ⟨RL, "at", "(LCargoHeel;I[J)I"⟩
abbrev cL_inYard : ByteArray := method_17_code
def yL_inYard : MethodName := ⟨RL, "inYard", "(LCargoHeel;II[J)I"⟩
abbrev cL_hatch : ByteArray := method_18_code
def yL_hatch : MethodName := ⟨RL, "hatch", "(LCargoHeel;I[J)I"⟩
abbrev cL_moment : ByteArray := method_19_code
def yL_moment : MethodName := ⟨RL, "moment", "(LCargoHeel;I[J)I"⟩
abbrev cL_momentAnew : ByteArray := method_20_code
def yL_momentAnew : MethodName := ⟨RL, "momentAnew", "(LCargoHeel;I[J)I"⟩
abbrev cL_dig : ByteArray := method_21_code
def yL_dig : MethodName := ⟨RL, "dig", "(LCargoHeel;I[J)I"⟩
abbrev cL_can : ByteArray := method_22_code
def yL_can : MethodName := ⟨RL, "can", "(LCargoHeel;II[J)I"⟩
abbrev cL_may : ByteArray := method_23_code
def yL_may : MethodName := ⟨RL, "may", "(LCargoHeel;II[J)I"⟩
abbrev cL_law : ByteArray := code
def yL_law : MethodName := ⟨RL, "law", "([I)Z"⟩
end
section
/-! which words of the tables stand in TBL -/
theorem in_L : Cond.initialized RL ∈ TBL := tb_1 0 (by decide +kernel) rfl
theorem in_X6 : Cond.initialized RX6 ∈ TBL := tb_1 1 (by decide +kernel) rfl
theorem in_X0 : Cond.initialized RX0 ∈ TBL := tb_1 2 (by decide +kernel) rfl
theorem in_X3 : Cond.initialized RX3 ∈ TBL := tb_1 3 (by decide +kernel) rfl
theorem in_X5 : Cond.initialized RX5 ∈ TBL := tb_1 4 (by decide +kernel) rfl
theorem in_X4 : Cond.initialized RX4 ∈ TBL := tb_1 5 (by decide +kernel) rfl
theorem in_X2 : Cond.initialized RX2 ∈ TBL := tb_1 6 (by decide +kernel) rfl
theorem in_X1 : Cond.initialized RX1 ∈ TBL := tb_1 7 (by decide +kernel) rfl
theorem in_X7 : Cond.initialized RX7 ∈ TBL := tb_1 8 (by decide +kernel) rfl
theorem in_Throwable : Cond.initialized "java/lang/Throwable" ∈ TBL := tb_1 9 (by decide +kernel) rfl
theorem in_Exception : Cond.initialized "java/lang/Exception" ∈ TBL := tb_1 10 (by decide +kernel) rfl
theorem in_RuntimeException : Cond.initialized "java/lang/RuntimeException" ∈ TBL := tb_1 11 (by decide +kernel) rfl
theorem in_IndexOutOfBoundsException : Cond.initialized "java/lang/IndexOutOfBoundsException" ∈ TBL := tb_1 12 (by decide +kernel) rfl
theorem in_IllegalStateException : Cond.initialized "java/lang/IllegalStateException" ∈ TBL := tb_1 13 (by decide +kernel) rfl
theorem in_IllegalArgumentException : Cond.initialized "java/lang/IllegalArgumentException" ∈ TBL := tb_1 14 (by decide +kernel) rfl
theorem in_J9 : Cond.initialized RJ9 ∈ TBL := tb_1 15 (by decide +kernel) rfl
theorem cl_L_8 : Cond.classLink RL 8 RX6 ∈ TBL := tb_1 16 (by decide +kernel) rfl
theorem it_X6 : Cond.instantiable RX6 12 ∈ TBL := tb_1 17 (by decide +kernel) rfl
theorem ml_L_87 : Cond.methodLink RL 87 yX6_init ∈ TBL := tb_1 18 (by decide +kernel) rfl
theorem im_yX6_init : Cond.instanceMethod yX6_init ∈ TBL := tb_1 19 (by decide +kernel) rfl
theorem cd_yX6_init : Cond.code yX6_init cX6_init 1 none ∈ TBL := tb_1 20 (by decide +kernel) rfl
theorem ml_X6_1 : Cond.methodLink RX6 1 objectInit ∈ TBL := tb_1 21 (by decide +kernel) rfl
theorem im_objectInit : Cond.instanceMethod objectInit ∈ TBL := tb_1 22 (by decide +kernel) rfl
theorem cd_objectInit : Cond.code objectInit ⟨#[0xb1]⟩ 1 none ∈ TBL := tb_1 23 (by decide +kernel) rfl
theorem cl_X6_7 : Cond.classLink RX6 7 RX0 ∈ TBL := tb_1 24 (by decide +kernel) rfl
theorem it_X0 : Cond.instantiable RX0 8 ∈ TBL := tb_1 25 (by decide +kernel) rfl
theorem ml_X6_9 : Cond.methodLink RX6 9 yX0_init ∈ TBL := tb_1 26 (by decide +kernel) rfl
theorem im_yX0_init : Cond.instanceMethod yX0_init ∈ TBL := tb_1 27 (by decide +kernel) rfl
theorem cd_yX0_init : Cond.code yX0_init cX0_init 1 none ∈ TBL := tb_1 28 (by decide +kernel) rfl
theorem ml_X0_3 : Cond.methodLink RX0 3 objectInit ∈ TBL := tb_1 29 (by decide +kernel) rfl
theorem cl_X0_9 : Cond.classLink RX0 9 RX3 ∈ TBL := tb_1 30 (by decide +kernel) rfl
theorem it_X3 : Cond.instantiable RX3 1 ∈ TBL := tb_1 31 (by decide +kernel) rfl
theorem ml_X0_11 : Cond.methodLink RX0 11 yX3_init ∈ TBL := tb_1 32 (by decide +kernel) rfl
theorem im_yX3_init : Cond.instanceMethod yX3_init ∈ TBL := tb_1 33 (by decide +kernel) rfl
theorem cd_yX3_init : Cond.code yX3_init cX3_init 4 none ∈ TBL := tb_1 34 (by decide +kernel) rfl
theorem ml_X3_3 : Cond.methodLink RX3 3 objectInit ∈ TBL := tb_1 35 (by decide +kernel) rfl
theorem fl_X3_9 : Cond.fieldLink RX3 9 "CargoHeel$Row" "cells" "[I" ∈ TBL := tb_1 36 (by decide +kernel) rfl
theorem ac_int : Cond.arrayClass .int ∈ TBL := tb_1 40 (by decide +kernel) rfl
theorem fl_X0_14 : Cond.fieldLink RX0 14 "CargoHeel$Boxes" "told" "LCargoHeel$Row;" ∈ TBL := tb_1 41 (by decide +kernel) rfl
theorem fl_X6_258 : Cond.fieldLink RX6 258 "CargoHeel$Boxes" "told" "LCargoHeel$Row;" ∈ TBL := tb_1 42 (by decide +kernel) rfl
theorem fl_X0_20 : Cond.fieldLink RX0 20 "CargoHeel$Boxes" "truth" "LCargoHeel$Row;" ∈ TBL := tb_1 43 (by decide +kernel) rfl
theorem fl_X6_289 : Cond.fieldLink RX6 289 "CargoHeel$Boxes" "truth" "LCargoHeel$Row;" ∈ TBL := tb_1 44 (by decide +kernel) rfl
theorem fl_X0_23 : Cond.fieldLink RX0 23 "CargoHeel$Boxes" "port" "LCargoHeel$Row;" ∈ TBL := tb_1 45 (by decide +kernel) rfl
theorem fl_X6_213 : Cond.fieldLink RX6 213 "CargoHeel$Boxes" "port" "LCargoHeel$Row;" ∈ TBL := tb_1 46 (by decide +kernel) rfl
theorem fl_X0_26 : Cond.fieldLink RX0 26 "CargoHeel$Boxes" "kind" "LCargoHeel$Row;" ∈ TBL := tb_1 47 (by decide +kernel) rfl
theorem fl_X6_78 : Cond.fieldLink RX6 78 "CargoHeel$Boxes" "kind" "LCargoHeel$Row;" ∈ TBL := tb_1 48 (by decide +kernel) rfl
theorem fl_X0_29 : Cond.fieldLink RX0 29 "CargoHeel$Boxes" "papers" "LCargoHeel$Row;" ∈ TBL := tb_1 49 (by decide +kernel) rfl
theorem fl_X6_194 : Cond.fieldLink RX6 194 "CargoHeel$Boxes" "papers" "LCargoHeel$Row;" ∈ TBL := tb_1 50 (by decide +kernel) rfl
theorem fl_X0_32 : Cond.fieldLink RX0 32 "CargoHeel$Boxes" "where" "LCargoHeel$Row;" ∈ TBL := tb_1 51 (by decide +kernel) rfl
theorem fl_X6_210 : Cond.fieldLink RX6 210 "CargoHeel$Boxes" "where" "LCargoHeel$Row;" ∈ TBL := tb_1 52 (by decide +kernel) rfl
theorem fl_X0_35 : Cond.fieldLink RX0 35 "CargoHeel$Boxes" "place" "LCargoHeel$Row;" ∈ TBL := tb_1 53 (by decide +kernel) rfl
theorem fl_X6_261 : Cond.fieldLink RX6 261 "CargoHeel$Boxes" "place" "LCargoHeel$Row;" ∈ TBL := tb_1 54 (by decide +kernel) rfl
theorem fl_X0_38 : Cond.fieldLink RX0 38 "CargoHeel$Boxes" "count" "I" ∈ TBL := tb_1 55 (by decide +kernel) rfl
theorem fl_X6_169 : Cond.fieldLink RX6 169 "CargoHeel$Boxes" "count" "I" ∈ TBL := tb_1 56 (by decide +kernel) rfl
theorem cl_X6_16 : Cond.classLink RX6 16 RX5 ∈ TBL := tb_1 74 (by decide +kernel) rfl
theorem it_X5 : Cond.instantiable RX5 2 ∈ TBL := tb_1 75 (by decide +kernel) rfl
theorem ml_X6_18 : Cond.methodLink RX6 18 yX5_init ∈ TBL := tb_1 76 (by decide +kernel) rfl
theorem im_yX5_init : Cond.instanceMethod yX5_init ∈ TBL := tb_1 77 (by decide +kernel) rfl
theorem cd_yX5_init : Cond.code yX5_init cX5_init 1 none ∈ TBL := tb_1 78 (by decide +kernel) rfl
theorem ml_X5_3 : Cond.methodLink RX5 3 objectInit ∈ TBL := tb_1 79 (by decide +kernel) rfl
theorem cl_X5_9 : Cond.classLink RX5 9 RX3 ∈ TBL := tb_1 80 (by decide +kernel) rfl
theorem ml_X5_11 : Cond.methodLink RX5 11 yX3_init ∈ TBL := tb_1 81 (by decide +kernel) rfl
theorem fl_X5_14 : Cond.fieldLink RX5 14 "CargoHeel$Yard" "height" "LCargoHeel$Row;" ∈ TBL := tb_1 82 (by decide +kernel) rfl
theorem fl_X6_312 : Cond.fieldLink RX6 312 "CargoHeel$Yard" "height" "LCargoHeel$Row;" ∈ TBL := tb_1 83 (by decide +kernel) rfl
theorem fl_X5_20 : Cond.fieldLink RX5 20 "CargoHeel$Yard" "held" "LCargoHeel$Row;" ∈ TBL := tb_1 84 (by decide +kernel) rfl
theorem cl_X6_23 : Cond.classLink RX6 23 RX4 ∈ TBL := tb_1 90 (by decide +kernel) rfl
theorem it_X4 : Cond.instantiable RX4 7 ∈ TBL := tb_1 91 (by decide +kernel) rfl
theorem ml_X6_25 : Cond.methodLink RX6 25 yX4_init ∈ TBL := tb_1 92 (by decide +kernel) rfl
theorem im_yX4_init : Cond.instanceMethod yX4_init ∈ TBL := tb_1 93 (by decide +kernel) rfl
theorem cd_yX4_init : Cond.code yX4_init cX4_init 1 none ∈ TBL := tb_1 94 (by decide +kernel) rfl
theorem ml_X4_3 : Cond.methodLink RX4 3 objectInit ∈ TBL := tb_1 95 (by decide +kernel) rfl
theorem cl_X4_9 : Cond.classLink RX4 9 RX3 ∈ TBL := tb_1 96 (by decide +kernel) rfl
theorem ml_X4_11 : Cond.methodLink RX4 11 yX3_init ∈ TBL := tb_1 97 (by decide +kernel) rfl
theorem fl_X4_14 : Cond.fieldLink RX4 14 "CargoHeel$Ship" "open" "LCargoHeel$Row;" ∈ TBL := tb_1 98 (by decide +kernel) rfl
theorem fl_X6_369 : Cond.fieldLink RX6 369 "CargoHeel$Ship" "open" "LCargoHeel$Row;" ∈ TBL := tb_1 99 (by decide +kernel) rfl
theorem fl_X4_20 : Cond.fieldLink RX4 20 "CargoHeel$Ship" "jammedTill" "LCargoHeel$Row;" ∈ TBL := tb_1 100 (by decide +kernel) rfl
theorem fl_X6_126 : Cond.fieldLink RX6 126 "CargoHeel$Ship" "jammedTill" "LCargoHeel$Row;" ∈ TBL := tb_1 101 (by decide +kernel) rfl
theorem fl_X4_23 : Cond.fieldLink RX4 23 "CargoHeel$Ship" "water" "LCargoHeel$Row;" ∈ TBL := tb_1 102 (by decide +kernel) rfl
theorem fl_X6_112 : Cond.fieldLink RX6 112 "CargoHeel$Ship" "water" "LCargoHeel$Row;" ∈ TBL := tb_1 103 (by decide +kernel) rfl
theorem fl_X4_26 : Cond.fieldLink RX4 26 "CargoHeel$Ship" "load" "LCargoHeel$Row;" ∈ TBL := tb_1 104 (by decide +kernel) rfl
theorem fl_X6_118 : Cond.fieldLink RX6 118 "CargoHeel$Ship" "load" "LCargoHeel$Row;" ∈ TBL := tb_1 105 (by decide +kernel) rfl
theorem fl_X4_64 : Cond.fieldLink RX4 64 "CargoHeel$Ship" "heel" "I" ∈ TBL := tb_1 106 (by decide +kernel) rfl
theorem fl_X6_344 : Cond.fieldLink RX6 344 "CargoHeel$Ship" "heel" "I" ∈ TBL := tb_1 107 (by decide +kernel) rfl
theorem fl_X4_29 : Cond.fieldLink RX4 29 "CargoHeel$Ship" "held" "LCargoHeel$Row;" ∈ TBL := tb_1 108 (by decide +kernel) rfl
theorem fl_X4_32 : Cond.fieldLink RX4 32 "CargoHeel$Ship" "plugs" "LCargoHeel$Row;" ∈ TBL := tb_1 109 (by decide +kernel) rfl
theorem cl_X6_30 : Cond.classLink RX6 30 RX2 ∈ TBL := tb_1 125 (by decide +kernel) rfl
theorem it_X2 : Cond.instantiable RX2 4 ∈ TBL := tb_1 126 (by decide +kernel) rfl
theorem ml_X6_32 : Cond.methodLink RX6 32 yX2_init ∈ TBL := tb_1 127 (by decide +kernel) rfl
theorem im_yX2_init : Cond.instanceMethod yX2_init ∈ TBL := tb_1 128 (by decide +kernel) rfl
theorem cd_yX2_init : Cond.code yX2_init cX2_init 1 none ∈ TBL := tb_1 129 (by decide +kernel) rfl
theorem ml_X2_3 : Cond.methodLink RX2 3 objectInit ∈ TBL := tb_1 130 (by decide +kernel) rfl
theorem cl_X2_9 : Cond.classLink RX2 9 RX3 ∈ TBL := tb_1 131 (by decide +kernel) rfl
theorem ml_X2_11 : Cond.methodLink RX2 11 yX3_init ∈ TBL := tb_1 132 (by decide +kernel) rfl
theorem fl_X2_14 : Cond.fieldLink RX2 14 "CargoHeel$Queue" "what" "LCargoHeel$Row;" ∈ TBL := tb_1 133 (by decide +kernel) rfl
theorem fl_X6_351 : Cond.fieldLink RX6 351 "CargoHeel$Queue" "what" "LCargoHeel$Row;" ∈ TBL := tb_1 134 (by decide +kernel) rfl
theorem fl_X2_20 : Cond.fieldLink RX2 20 "CargoHeel$Queue" "its" "LCargoHeel$Row;" ∈ TBL := tb_1 135 (by decide +kernel) rfl
theorem fl_X6_347 : Cond.fieldLink RX6 347 "CargoHeel$Queue" "its" "LCargoHeel$Row;" ∈ TBL := tb_1 136 (by decide +kernel) rfl
theorem fl_X2_23 : Cond.fieldLink RX2 23 "CargoHeel$Queue" "place" "LCargoHeel$Row;" ∈ TBL := tb_1 137 (by decide +kernel) rfl
theorem fl_X6_350 : Cond.fieldLink RX6 350 "CargoHeel$Queue" "place" "LCargoHeel$Row;" ∈ TBL := tb_1 138 (by decide +kernel) rfl
theorem fl_X2_26 : Cond.fieldLink RX2 26 "CargoHeel$Queue" "count" "I" ∈ TBL := tb_1 139 (by decide +kernel) rfl
theorem fl_X6_218 : Cond.fieldLink RX6 218 "CargoHeel$Queue" "count" "I" ∈ TBL := tb_1 140 (by decide +kernel) rfl
theorem cl_X6_37 : Cond.classLink RX6 37 RX1 ∈ TBL := tb_1 150 (by decide +kernel) rfl
theorem it_X1 : Cond.instantiable RX1 3 ∈ TBL := tb_1 151 (by decide +kernel) rfl
theorem ml_X6_39 : Cond.methodLink RX6 39 yX1_init ∈ TBL := tb_1 152 (by decide +kernel) rfl
theorem im_yX1_init : Cond.instanceMethod yX1_init ∈ TBL := tb_1 153 (by decide +kernel) rfl
theorem cd_yX1_init : Cond.code yX1_init cX1_init 1 none ∈ TBL := tb_1 154 (by decide +kernel) rfl
theorem ml_X1_3 : Cond.methodLink RX1 3 objectInit ∈ TBL := tb_1 155 (by decide +kernel) rfl
theorem cl_X1_9 : Cond.classLink RX1 9 RX3 ∈ TBL := tb_1 156 (by decide +kernel) rfl
theorem ml_X1_11 : Cond.methodLink RX1 11 yX3_init ∈ TBL := tb_1 157 (by decide +kernel) rfl
theorem fl_X1_14 : Cond.fieldLink RX1 14 "CargoHeel$Cranes" "from" "LCargoHeel$Row;" ∈ TBL := tb_1 158 (by decide +kernel) rfl
theorem fl_X6_147 : Cond.fieldLink RX6 147 "CargoHeel$Cranes" "from" "LCargoHeel$Row;" ∈ TBL := tb_1 159 (by decide +kernel) rfl
theorem fl_X1_20 : Cond.fieldLink RX1 20 "CargoHeel$Cranes" "to" "LCargoHeel$Row;" ∈ TBL := tb_1 160 (by decide +kernel) rfl
theorem fl_X6_150 : Cond.fieldLink RX6 150 "CargoHeel$Cranes" "to" "LCargoHeel$Row;" ∈ TBL := tb_1 161 (by decide +kernel) rfl
theorem fl_X1_23 : Cond.fieldLink RX1 23 "CargoHeel$Cranes" "lifts" "LCargoHeel$Row;" ∈ TBL := tb_1 162 (by decide +kernel) rfl
theorem fl_X6_153 : Cond.fieldLink RX6 153 "CargoHeel$Cranes" "lifts" "LCargoHeel$Row;" ∈ TBL := tb_1 163 (by decide +kernel) rfl
theorem cl_X6_44 : Cond.classLink RX6 44 RX3 ∈ TBL := tb_1 171 (by decide +kernel) rfl
theorem ml_X6_46 : Cond.methodLink RX6 46 yX3_init ∈ TBL := tb_1 172 (by decide +kernel) rfl
theorem fl_X6_10 : Cond.fieldLink RX6 10 "CargoHeel" "boxes" "LCargoHeel$Boxes;" ∈ TBL := tb_1 173 (by decide +kernel) rfl
theorem fl_X6_19 : Cond.fieldLink RX6 19 "CargoHeel" "yard" "LCargoHeel$Yard;" ∈ TBL := tb_1 174 (by decide +kernel) rfl
theorem fl_X6_26 : Cond.fieldLink RX6 26 "CargoHeel" "ship" "LCargoHeel$Ship;" ∈ TBL := tb_1 175 (by decide +kernel) rfl
theorem fl_X6_33 : Cond.fieldLink RX6 33 "CargoHeel" "queue" "LCargoHeel$Queue;" ∈ TBL := tb_1 176 (by decide +kernel) rfl
theorem fl_X6_40 : Cond.fieldLink RX6 40 "CargoHeel" "cranes" "LCargoHeel$Cranes;" ∈ TBL := tb_1 177 (by decide +kernel) rfl
theorem fl_X6_49 : Cond.fieldLink RX6 49 "CargoHeel" "leftOut" "LCargoHeel$Row;" ∈ TBL := tb_1 178 (by decide +kernel) rfl
theorem fl_X6_129 : Cond.fieldLink RX6 129 "CargoHeel" "hour" "I" ∈ TBL := tb_1 179 (by decide +kernel) rfl
theorem fl_X6_256 : Cond.fieldLink RX6 256 "CargoHeel" "port" "I" ∈ TBL := tb_1 180 (by decide +kernel) rfl
theorem fl_X6_238 : Cond.fieldLink RX6 238 "CargoHeel" "paid" "I" ∈ TBL := tb_1 181 (by decide +kernel) rfl
theorem fl_X6_53 : Cond.fieldLink RX6 53 "CargoHeel" "trimBound" "I" ∈ TBL := tb_1 182 (by decide +kernel) rfl
theorem fl_X6_57 : Cond.fieldLink RX6 57 "CargoHeel" "heelBound" "I" ∈ TBL := tb_1 183 (by decide +kernel) rfl
theorem fl_X6_60 : Cond.fieldLink RX6 60 "CargoHeel" "bendingBound" "I" ∈ TBL := tb_1 184 (by decide +kernel) rfl
theorem ml_L_139 : Cond.methodLink RL 139 yX6_hour ∈ TBL := tb_1 210 (by decide +kernel) rfl
theorem im_yX6_hour : Cond.instanceMethod yX6_hour ∈ TBL := tb_1 211 (by decide +kernel) rfl
theorem se_yX6_hour : Cond.selects RX6 yX6_hour yX6_hour ∈ TBL := tb_1 212 (by decide +kernel) rfl
theorem cd_yX6_hour : Cond.code yX6_hour cX6_hour 1 (some .int) ∈ TBL := tb_1 213 (by decide +kernel) rfl
theorem ml_L_143 : Cond.methodLink RL 143 yX6_port ∈ TBL := tb_1 214 (by decide +kernel) rfl
theorem im_yX6_port : Cond.instanceMethod yX6_port ∈ TBL := tb_1 215 (by decide +kernel) rfl
theorem se_yX6_port : Cond.selects RX6 yX6_port yX6_port ∈ TBL := tb_1 216 (by decide +kernel) rfl
theorem cd_yX6_port : Cond.code yX6_port cX6_port 1 (some .int) ∈ TBL := tb_1 217 (by decide +kernel) rfl
theorem ml_L_147 : Cond.methodLink RL 147 yX6_cost ∈ TBL := tb_1 218 (by decide +kernel) rfl
theorem im_yX6_cost : Cond.instanceMethod yX6_cost ∈ TBL := tb_1 219 (by decide +kernel) rfl
theorem se_yX6_cost : Cond.selects RX6 yX6_cost yX6_cost ∈ TBL := tb_1 220 (by decide +kernel) rfl
theorem cd_yX6_cost : Cond.code yX6_cost cX6_cost 1 (some .int) ∈ TBL := tb_1 221 (by decide +kernel) rfl
theorem ml_L_169 : Cond.methodLink RL 169 yX6_bars ∈ TBL := tb_1 222 (by decide +kernel) rfl
theorem im_yX6_bars : Cond.instanceMethod yX6_bars ∈ TBL := tb_1 223 (by decide +kernel) rfl
theorem se_yX6_bars : Cond.selects RX6 yX6_bars yX6_bars ∈ TBL := tb_1 224 (by decide +kernel) rfl
theorem cd_yX6_bars : Cond.code yX6_bars cX6_bars 3 (some .int) ∈ TBL := tb_1 225 (by decide +kernel) rfl
theorem ml_X6_271 : Cond.methodLink RX6 271 yX4_isOpen ∈ TBL := tb_1 226 (by decide +kernel) rfl
theorem im_yX4_isOpen : Cond.instanceMethod yX4_isOpen ∈ TBL := tb_1 227 (by decide +kernel) rfl
theorem se_yX4_isOpen : Cond.selects RX4 yX4_isOpen yX4_isOpen ∈ TBL := tb_1 228 (by decide +kernel) rfl
theorem cd_yX4_isOpen : Cond.code yX4_isOpen cX4_isOpen 2 (some .boolean) ∈ TBL := tb_1 229 (by decide +kernel) rfl
theorem ml_X4_39 : Cond.methodLink RX4 39 yX3_get ∈ TBL := tb_1 230 (by decide +kernel) rfl
theorem im_yX3_get : Cond.instanceMethod yX3_get ∈ TBL := tb_1 231 (by decide +kernel) rfl
theorem se_yX3_get : Cond.selects RX3 yX3_get yX3_get ∈ TBL := tb_1 232 (by decide +kernel) rfl
theorem cd_yX3_get : Cond.code yX3_get cX3_get 2 (some .int) ∈ TBL := tb_1 233 (by decide +kernel) rfl
theorem ml_X6_277 : Cond.methodLink RX6 277 yX6_momentKept ∈ TBL := tb_1 234 (by decide +kernel) rfl
theorem im_yX6_momentKept : Cond.instanceMethod yX6_momentKept ∈ TBL := tb_1 236 (by decide +kernel) rfl
theorem cd_yX6_momentKept : Cond.code yX6_momentKept cX6_momentKept 4 (some .int) ∈ TBL := tb_1 237 (by decide +kernel) rfl
theorem ml_X6_81 : Cond.methodLink RX6 81 yX3_get ∈ TBL := tb_1 238 (by decide +kernel) rfl
theorem ml_X6_286 : Cond.methodLink RX6 286 yX6_leverOf ∈ TBL := tb_1 239 (by decide +kernel) rfl
theorem st_yX6_leverOf : Cond.static yX6_leverOf ∈ TBL := tb_2 0 (by decide +kernel) rfl
theorem cd_yX6_leverOf : Cond.code yX6_leverOf cX6_leverOf 2 (some .int) ∈ TBL := tb_2 1 (by decide +kernel) rfl
theorem ml_X6_292 : Cond.methodLink RX6 292 yJ9_abs_0f7a4 ∈ TBL := tb_2 2 (by decide +kernel) rfl
theorem st_Math_abs : Cond.static Lib.Math.abs.name ∈ TBL := tb_2 3 (by decide +kernel) rfl
theorem cd_Math_abs : Cond.code Lib.Math.abs.name Lib.Math.abs.code 1 (some .int) ∈ TBL := tb_2 4 (by decide +kernel) rfl
theorem ml_L_176 : Cond.methodLink RL 176 yX6_orders ∈ TBL := tb_2 5 (by decide +kernel) rfl
theorem im_yX6_orders : Cond.instanceMethod yX6_orders ∈ TBL := tb_2 6 (by decide +kernel) rfl
theorem se_yX6_orders : Cond.selects RX6 yX6_orders yX6_orders ∈ TBL := tb_2 7 (by decide +kernel) rfl
theorem cd_yX6_orders : Cond.code yX6_orders cX6_orders 1 (some .int) ∈ TBL := tb_2 8 (by decide +kernel) rfl
theorem ml_L_91 : Cond.methodLink RL 91 yL_plug ∈ TBL := tb_2 9 (by decide +kernel) rfl
theorem st_yL_plug : Cond.static yL_plug ∈ TBL := tb_2 10 (by decide +kernel) rfl
theorem cl_L_13 : Cond.classLink RL 13 "java/lang/IndexOutOfBoundsException" ∈ TBL := tb_2 12 (by decide +kernel) rfl
theorem cl_L_15 : Cond.classLink RL 15 "java/lang/IllegalStateException" ∈ TBL := tb_2 13 (by decide +kernel) rfl
theorem ml_L_7 : Cond.methodLink RL 7 yX6_plug ∈ TBL := tb_2 14 (by decide +kernel) rfl
theorem im_yX6_plug : Cond.instanceMethod yX6_plug ∈ TBL := tb_2 15 (by decide +kernel) rfl
theorem se_yX6_plug : Cond.selects RX6 yX6_plug yX6_plug ∈ TBL := tb_2 16 (by decide +kernel) rfl
theorem cd_yX6_plug : Cond.code yX6_plug cX6_plug 3 (some .boolean) ∈ TBL := tb_2 17 (by decide +kernel) rfl
theorem ml_X6_63 : Cond.methodLink RX6 63 yX6_isSlot ∈ TBL := tb_2 18 (by decide +kernel) rfl
theorem st_yX6_isSlot : Cond.static yX6_isSlot ∈ TBL := tb_2 19 (by decide +kernel) rfl
theorem cd_yX6_isSlot : Cond.code yX6_isSlot cX6_isSlot 1 (some .boolean) ∈ TBL := tb_2 20 (by decide +kernel) rfl
theorem ml_X6_283 : Cond.methodLink RX6 283 yX6_bayOf ∈ TBL := tb_2 21 (by decide +kernel) rfl
theorem st_yX6_bayOf : Cond.static yX6_bayOf ∈ TBL := tb_2 22 (by decide +kernel) rfl
theorem cd_yX6_bayOf : Cond.code yX6_bayOf cX6_bayOf 1 (some .int) ∈ TBL := tb_2 23 (by decide +kernel) rfl
theorem ml_X6_280 : Cond.methodLink RX6 280 yX6_rowOf ∈ TBL := tb_2 24 (by decide +kernel) rfl
theorem st_yX6_rowOf : Cond.static yX6_rowOf ∈ TBL := tb_2 25 (by decide +kernel) rfl
theorem cd_yX6_rowOf : Cond.code yX6_rowOf cX6_rowOf 1 (some .int) ∈ TBL := tb_2 26 (by decide +kernel) rfl
theorem ml_X6_309 : Cond.methodLink RX6 309 yX6_tierOf ∈ TBL := tb_2 27 (by decide +kernel) rfl
theorem st_yX6_tierOf : Cond.static yX6_tierOf ∈ TBL := tb_2 28 (by decide +kernel) rfl
theorem cd_yX6_tierOf : Cond.code yX6_tierOf cX6_tierOf 1 (some .int) ∈ TBL := tb_2 29 (by decide +kernel) rfl
theorem cl_X6_67 : Cond.classLink RX6 67 "java/lang/IndexOutOfBoundsException" ∈ TBL := tb_2 30 (by decide +kernel) rfl
theorem ac_byte : Cond.arrayClass .byte ∈ TBL := tb_2 97 (by decide +kernel) rfl
theorem ml_X6_74 : Cond.methodLink RX6 74 yX4_boxIn ∈ TBL := tb_2 98 (by decide +kernel) rfl
theorem im_yX4_boxIn : Cond.instanceMethod yX4_boxIn ∈ TBL := tb_2 99 (by decide +kernel) rfl
theorem se_yX4_boxIn : Cond.selects RX4 yX4_boxIn yX4_boxIn ∈ TBL := tb_2 100 (by decide +kernel) rfl
theorem cd_yX4_boxIn : Cond.code yX4_boxIn cX4_boxIn 2 (some .int) ∈ TBL := tb_2 101 (by decide +kernel) rfl
theorem ml_X4_35 : Cond.methodLink RX4 35 yX4_cellOf ∈ TBL := tb_2 102 (by decide +kernel) rfl
theorem st_yX4_cellOf : Cond.static yX4_cellOf ∈ TBL := tb_2 103 (by decide +kernel) rfl
theorem cd_yX4_cellOf : Cond.code yX4_cellOf cX4_cellOf 1 (some .int) ∈ TBL := tb_2 104 (by decide +kernel) rfl
theorem cl_X6_84 : Cond.classLink RX6 84 "java/lang/IllegalStateException" ∈ TBL := tb_2 105 (by decide +kernel) rfl
theorem ml_X6_89 : Cond.methodLink RX6 89 yX4_turnPlug ∈ TBL := tb_2 121 (by decide +kernel) rfl
theorem im_yX4_turnPlug : Cond.instanceMethod yX4_turnPlug ∈ TBL := tb_2 122 (by decide +kernel) rfl
theorem se_yX4_turnPlug : Cond.selects RX4 yX4_turnPlug yX4_turnPlug ∈ TBL := tb_2 123 (by decide +kernel) rfl
theorem cd_yX4_turnPlug : Cond.code yX4_turnPlug cX4_turnPlug 2 none ∈ TBL := tb_2 124 (by decide +kernel) rfl
theorem ml_X4_49 : Cond.methodLink RX4 49 yX4_hasPlug ∈ TBL := tb_2 125 (by decide +kernel) rfl
theorem im_yX4_hasPlug : Cond.instanceMethod yX4_hasPlug ∈ TBL := tb_2 126 (by decide +kernel) rfl
theorem se_yX4_hasPlug : Cond.selects RX4 yX4_hasPlug yX4_hasPlug ∈ TBL := tb_2 127 (by decide +kernel) rfl
theorem cd_yX4_hasPlug : Cond.code yX4_hasPlug cX4_hasPlug 2 (some .boolean) ∈ TBL := tb_2 128 (by decide +kernel) rfl
theorem ml_X4_52 : Cond.methodLink RX4 52 yX3_set ∈ TBL := tb_2 129 (by decide +kernel) rfl
theorem im_yX3_set : Cond.instanceMethod yX3_set ∈ TBL := tb_2 130 (by decide +kernel) rfl
theorem se_yX3_set : Cond.selects RX3 yX3_set yX3_set ∈ TBL := tb_2 131 (by decide +kernel) rfl
theorem cd_yX3_set : Cond.code yX3_set cX3_set 3 none ∈ TBL := tb_2 132 (by decide +kernel) rfl
theorem ml_X6_93 : Cond.methodLink RX6 93 yX4_hasPlug ∈ TBL := tb_2 133 (by decide +kernel) rfl
theorem ml_L_100 : Cond.methodLink RL 100 yL_bounds ∈ TBL := tb_2 134 (by decide +kernel) rfl
theorem st_yL_bounds : Cond.static yL_bounds ∈ TBL := tb_2 135 (by decide +kernel) rfl
theorem cl_L_21 : Cond.classLink RL 21 "java/lang/IllegalArgumentException" ∈ TBL := tb_2 137 (by decide +kernel) rfl
theorem ml_L_17 : Cond.methodLink RL 17 yX6_bounds ∈ TBL := tb_2 138 (by decide +kernel) rfl
theorem im_yX6_bounds : Cond.instanceMethod yX6_bounds ∈ TBL := tb_2 139 (by decide +kernel) rfl
theorem se_yX6_bounds : Cond.selects RX6 yX6_bounds yX6_bounds ∈ TBL := tb_2 140 (by decide +kernel) rfl
theorem cd_yX6_bounds : Cond.code yX6_bounds cX6_bounds 4 none ∈ TBL := tb_2 141 (by decide +kernel) rfl
theorem ml_X6_96 : Cond.methodLink RX6 96 yX6_isWithin ∈ TBL := tb_2 142 (by decide +kernel) rfl
theorem st_yX6_isWithin : Cond.static yX6_isWithin ∈ TBL := tb_2 143 (by decide +kernel) rfl
theorem cd_yX6_isWithin : Cond.code yX6_isWithin cX6_isWithin 3 (some .boolean) ∈ TBL := tb_2 144 (by decide +kernel) rfl
theorem cl_X6_100 : Cond.classLink RX6 100 "java/lang/IllegalArgumentException" ∈ TBL := tb_2 145 (by decide +kernel) rfl
theorem ml_L_104 : Cond.methodLink RL 104 yL_tank ∈ TBL := tb_2 161 (by decide +kernel) rfl
theorem st_yL_tank : Cond.static yL_tank ∈ TBL := tb_2 162 (by decide +kernel) rfl
theorem ml_L_23 : Cond.methodLink RL 23 yX6_tank ∈ TBL := tb_2 164 (by decide +kernel) rfl
theorem im_yX6_tank : Cond.instanceMethod yX6_tank ∈ TBL := tb_2 165 (by decide +kernel) rfl
theorem se_yX6_tank : Cond.selects RX6 yX6_tank yX6_tank ∈ TBL := tb_2 166 (by decide +kernel) rfl
theorem cd_yX6_tank : Cond.code yX6_tank cX6_tank 4 (some .int) ∈ TBL := tb_2 167 (by decide +kernel) rfl
theorem ml_X6_105 : Cond.methodLink RX6 105 yX6_isBay ∈ TBL := tb_2 168 (by decide +kernel) rfl
theorem st_yX6_isBay : Cond.static yX6_isBay ∈ TBL := tb_2 169 (by decide +kernel) rfl
theorem cd_yX6_isBay : Cond.code yX6_isBay cX6_isBay 1 (some .boolean) ∈ TBL := tb_2 170 (by decide +kernel) rfl
theorem ml_X6_115 : Cond.methodLink RX6 115 yX3_set ∈ TBL := tb_2 173 (by decide +kernel) rfl
theorem ml_X6_121 : Cond.methodLink RX6 121 yX3_add ∈ TBL := tb_2 174 (by decide +kernel) rfl
theorem im_yX3_add : Cond.instanceMethod yX3_add ∈ TBL := tb_2 175 (by decide +kernel) rfl
theorem se_yX3_add : Cond.selects RX3 yX3_add yX3_add ∈ TBL := tb_2 176 (by decide +kernel) rfl
theorem cd_yX3_add : Cond.code yX3_add cX3_add 3 none ∈ TBL := tb_2 177 (by decide +kernel) rfl
theorem ml_L_108 : Cond.methodLink RL 108 yL_jam ∈ TBL := tb_2 178 (by decide +kernel) rfl
theorem st_yL_jam : Cond.static yL_jam ∈ TBL := tb_2 179 (by decide +kernel) rfl
theorem ml_L_27 : Cond.methodLink RL 27 yX6_jam ∈ TBL := tb_2 181 (by decide +kernel) rfl
theorem im_yX6_jam : Cond.instanceMethod yX6_jam ∈ TBL := tb_2 182 (by decide +kernel) rfl
theorem se_yX6_jam : Cond.selects RX6 yX6_jam yX6_jam ∈ TBL := tb_2 183 (by decide +kernel) rfl
theorem cd_yX6_jam : Cond.code yX6_jam cX6_jam 4 (some .int) ∈ TBL := tb_2 184 (by decide +kernel) rfl
theorem ml_X6_132 : Cond.methodLink RX6 132 yJ9_max_7cf53 ∈ TBL := tb_2 186 (by decide +kernel) rfl
theorem st_Math_max : Cond.static Lib.Math.max.name ∈ TBL := tb_2 187 (by decide +kernel) rfl
theorem cd_Math_max : Cond.code Lib.Math.max.name Lib.Math.max.code 2 (some .int) ∈ TBL := tb_2 188 (by decide +kernel) rfl
theorem ml_L_111 : Cond.methodLink RL 111 yL_crane ∈ TBL := tb_2 189 (by decide +kernel) rfl
theorem st_yL_crane : Cond.static yL_crane ∈ TBL := tb_2 190 (by decide +kernel) rfl
theorem ml_L_30 : Cond.methodLink RL 30 yX6_crane ∈ TBL := tb_2 192 (by decide +kernel) rfl
theorem im_yX6_crane : Cond.instanceMethod yX6_crane ∈ TBL := tb_2 193 (by decide +kernel) rfl
theorem se_yX6_crane : Cond.selects RX6 yX6_crane yX6_crane ∈ TBL := tb_2 194 (by decide +kernel) rfl
theorem cd_yX6_crane : Cond.code yX6_crane cX6_crane 5 none ∈ TBL := tb_2 195 (by decide +kernel) rfl
theorem ml_X6_138 : Cond.methodLink RX6 138 yX6_isCrane ∈ TBL := tb_2 196 (by decide +kernel) rfl
theorem st_yX6_isCrane : Cond.static yX6_isCrane ∈ TBL := tb_2 197 (by decide +kernel) rfl
theorem cd_yX6_isCrane : Cond.code yX6_isCrane cX6_isCrane 1 (some .boolean) ∈ TBL := tb_2 198 (by decide +kernel) rfl
theorem ml_L_115 : Cond.methodLink RL 115 yL_box ∈ TBL := tb_2 202 (by decide +kernel) rfl
theorem st_yL_box : Cond.static yL_box ∈ TBL := tb_2 203 (by decide +kernel) rfl
theorem ml_L_34 : Cond.methodLink RL 34 yX6_box ∈ TBL := tb_2 205 (by decide +kernel) rfl
theorem im_yX6_box : Cond.instanceMethod yX6_box ∈ TBL := tb_2 206 (by decide +kernel) rfl
theorem se_yX6_box : Cond.selects RX6 yX6_box yX6_box ∈ TBL := tb_2 207 (by decide +kernel) rfl
theorem cd_yX6_box : Cond.code yX6_box cX6_box 7 (some .int) ∈ TBL := tb_2 208 (by decide +kernel) rfl
theorem ml_X6_158 : Cond.methodLink RX6 158 yX6_isStack ∈ TBL := tb_2 210 (by decide +kernel) rfl
theorem st_yX6_isStack : Cond.static yX6_isStack ∈ TBL := tb_2 211 (by decide +kernel) rfl
theorem cd_yX6_isStack : Cond.code yX6_isStack cX6_isStack 1 (some .boolean) ∈ TBL := tb_2 212 (by decide +kernel) rfl
theorem ml_X6_174 : Cond.methodLink RX6 174 yX6_mayBeStacked ∈ TBL := tb_2 218 (by decide +kernel) rfl
theorem im_yX6_mayBeStacked : Cond.instanceMethod yX6_mayBeStacked ∈ TBL := tb_2 220 (by decide +kernel) rfl
theorem cd_yX6_mayBeStacked : Cond.code yX6_mayBeStacked cX6_mayBeStacked 4 (some .boolean) ∈ TBL := tb_2 221 (by decide +kernel) rfl
theorem ml_X6_315 : Cond.methodLink RX6 315 yX5_topOf ∈ TBL := tb_2 222 (by decide +kernel) rfl
theorem im_yX5_topOf : Cond.instanceMethod yX5_topOf ∈ TBL := tb_2 223 (by decide +kernel) rfl
theorem se_yX5_topOf : Cond.selects RX5 yX5_topOf yX5_topOf ∈ TBL := tb_2 224 (by decide +kernel) rfl
theorem cd_yX5_topOf : Cond.code yX5_topOf cX5_topOf 3 (some .int) ∈ TBL := tb_2 225 (by decide +kernel) rfl
theorem ml_X5_23 : Cond.methodLink RX5 23 yX3_get ∈ TBL := tb_2 226 (by decide +kernel) rfl
theorem ml_X6_318 : Cond.methodLink RX6 318 yX0_mayCarry ∈ TBL := tb_2 227 (by decide +kernel) rfl
theorem im_yX0_mayCarry : Cond.instanceMethod yX0_mayCarry ∈ TBL := tb_2 228 (by decide +kernel) rfl
theorem se_yX0_mayCarry : Cond.selects RX0 yX0_mayCarry yX0_mayCarry ∈ TBL := tb_2 229 (by decide +kernel) rfl
theorem cd_yX0_mayCarry : Cond.code yX0_mayCarry cX0_mayCarry 3 (some .boolean) ∈ TBL := tb_2 230 (by decide +kernel) rfl
theorem ml_X0_45 : Cond.methodLink RX0 45 yX3_get ∈ TBL := tb_2 231 (by decide +kernel) rfl
theorem ml_X6_180 : Cond.methodLink RX6 180 yX0_come ∈ TBL := tb_2 233 (by decide +kernel) rfl
theorem im_yX0_come : Cond.instanceMethod yX0_come ∈ TBL := tb_2 234 (by decide +kernel) rfl
theorem se_yX0_come : Cond.selects RX0 yX0_come yX0_come ∈ TBL := tb_2 235 (by decide +kernel) rfl
theorem cd_yX0_come : Cond.code yX0_come cX0_come 6 (some .int) ∈ TBL := tb_2 236 (by decide +kernel) rfl
theorem ml_X0_42 : Cond.methodLink RX0 42 yX3_set ∈ TBL := tb_2 237 (by decide +kernel) rfl
theorem ml_X6_184 : Cond.methodLink RX6 184 yX6_putInYard ∈ TBL := tb_2 238 (by decide +kernel) rfl
theorem im_yX6_putInYard : Cond.instanceMethod yX6_putInYard ∈ TBL := tb_3 0 (by decide +kernel) rfl
theorem cd_yX6_putInYard : Cond.code yX6_putInYard cX6_putInYard 3 none ∈ TBL := tb_3 1 (by decide +kernel) rfl
theorem ml_X6_333 : Cond.methodLink RX6 333 yX5_put ∈ TBL := tb_3 2 (by decide +kernel) rfl
theorem im_yX5_put : Cond.instanceMethod yX5_put ∈ TBL := tb_3 3 (by decide +kernel) rfl
theorem se_yX5_put : Cond.selects RX5 yX5_put yX5_put ∈ TBL := tb_3 4 (by decide +kernel) rfl
theorem cd_yX5_put : Cond.code yX5_put cX5_put 3 none ∈ TBL := tb_3 5 (by decide +kernel) rfl
theorem ml_X5_31 : Cond.methodLink RX5 31 yX3_set ∈ TBL := tb_3 6 (by decide +kernel) rfl
theorem ml_X5_34 : Cond.methodLink RX5 34 yX3_add ∈ TBL := tb_3 7 (by decide +kernel) rfl
theorem ml_X6_250 : Cond.methodLink RX6 250 yX0_move ∈ TBL := tb_3 8 (by decide +kernel) rfl
theorem im_yX0_move : Cond.instanceMethod yX0_move ∈ TBL := tb_3 9 (by decide +kernel) rfl
theorem se_yX0_move : Cond.selects RX0 yX0_move yX0_move ∈ TBL := tb_3 10 (by decide +kernel) rfl
theorem cd_yX0_move : Cond.code yX0_move cX0_move 4 none ∈ TBL := tb_3 11 (by decide +kernel) rfl
theorem ml_L_119 : Cond.methodLink RL 119 yL_paper ∈ TBL := tb_3 12 (by decide +kernel) rfl
theorem st_yL_paper : Cond.static yL_paper ∈ TBL := tb_3 13 (by decide +kernel) rfl
theorem ml_L_38 : Cond.methodLink RL 38 yX6_paper ∈ TBL := tb_3 15 (by decide +kernel) rfl
theorem im_yX6_paper : Cond.instanceMethod yX6_paper ∈ TBL := tb_3 16 (by decide +kernel) rfl
theorem se_yX6_paper : Cond.selects RX6 yX6_paper yX6_paper ∈ TBL := tb_3 17 (by decide +kernel) rfl
theorem cd_yX6_paper : Cond.code yX6_paper cX6_paper 3 (some .boolean) ∈ TBL := tb_3 18 (by decide +kernel) rfl
theorem ml_X6_187 : Cond.methodLink RX6 187 yX6_isBox ∈ TBL := tb_3 19 (by decide +kernel) rfl
theorem im_yX6_isBox : Cond.instanceMethod yX6_isBox ∈ TBL := tb_3 21 (by decide +kernel) rfl
theorem cd_yX6_isBox : Cond.code yX6_isBox cX6_isBox 2 (some .boolean) ∈ TBL := tb_3 22 (by decide +kernel) rfl
theorem ml_X6_197 : Cond.methodLink RX6 197 yX0_isHeld ∈ TBL := tb_3 25 (by decide +kernel) rfl
theorem im_yX0_isHeld : Cond.instanceMethod yX0_isHeld ∈ TBL := tb_3 26 (by decide +kernel) rfl
theorem se_yX0_isHeld : Cond.selects RX0 yX0_isHeld yX0_isHeld ∈ TBL := tb_3 27 (by decide +kernel) rfl
theorem cd_yX0_isHeld : Cond.code yX0_isHeld cX0_isHeld 2 (some .boolean) ∈ TBL := tb_3 28 (by decide +kernel) rfl
theorem ml_L_122 : Cond.methodLink RL 122 yL_skip ∈ TBL := tb_3 29 (by decide +kernel) rfl
theorem st_yL_skip : Cond.static yL_skip ∈ TBL := tb_3 30 (by decide +kernel) rfl
theorem ml_L_42 : Cond.methodLink RL 42 yX6_skip ∈ TBL := tb_3 32 (by decide +kernel) rfl
theorem im_yX6_skip : Cond.instanceMethod yX6_skip ∈ TBL := tb_3 33 (by decide +kernel) rfl
theorem se_yX6_skip : Cond.selects RX6 yX6_skip yX6_skip ∈ TBL := tb_3 34 (by decide +kernel) rfl
theorem cd_yX6_skip : Cond.code yX6_skip cX6_skip 5 (some .int) ∈ TBL := tb_3 35 (by decide +kernel) rfl
theorem ml_X6_202 : Cond.methodLink RX6 202 yX6_isAhead ∈ TBL := tb_3 37 (by decide +kernel) rfl
theorem im_yX6_isAhead : Cond.instanceMethod yX6_isAhead ∈ TBL := tb_3 39 (by decide +kernel) rfl
theorem cd_yX6_isAhead : Cond.code yX6_isAhead cX6_isAhead 2 (some .boolean) ∈ TBL := tb_3 40 (by decide +kernel) rfl
theorem ml_X6_207 : Cond.methodLink RX6 207 yX6_portBehind ∈ TBL := tb_3 42 (by decide +kernel) rfl
theorem im_yX6_portBehind : Cond.instanceMethod yX6_portBehind ∈ TBL := tb_3 44 (by decide +kernel) rfl
theorem cd_yX6_portBehind : Cond.code yX6_portBehind cX6_portBehind 3 (some .int) ∈ TBL := tb_3 45 (by decide +kernel) rfl
theorem ml_L_125 : Cond.methodLink RL 125 yL_order ∈ TBL := tb_3 46 (by decide +kernel) rfl
theorem st_yL_order : Cond.static yL_order ∈ TBL := tb_3 47 (by decide +kernel) rfl
theorem ml_L_46 : Cond.methodLink RL 46 yX6_order ∈ TBL := tb_3 49 (by decide +kernel) rfl
theorem im_yX6_order : Cond.instanceMethod yX6_order ∈ TBL := tb_3 50 (by decide +kernel) rfl
theorem se_yX6_order : Cond.selects RX6 yX6_order yX6_order ∈ TBL := tb_3 51 (by decide +kernel) rfl
theorem cd_yX6_order : Cond.code yX6_order cX6_order 4 (some .int) ∈ TBL := tb_3 52 (by decide +kernel) rfl
theorem ml_X6_221 : Cond.methodLink RX6 221 yX2_append ∈ TBL := tb_3 55 (by decide +kernel) rfl
theorem im_yX2_append : Cond.instanceMethod yX2_append ∈ TBL := tb_3 56 (by decide +kernel) rfl
theorem se_yX2_append : Cond.selects RX2 yX2_append yX2_append ∈ TBL := tb_3 57 (by decide +kernel) rfl
theorem cd_yX2_append : Cond.code yX2_append cX2_append 4 none ∈ TBL := tb_3 58 (by decide +kernel) rfl
theorem ml_X2_30 : Cond.methodLink RX2 30 yX3_set ∈ TBL := tb_3 59 (by decide +kernel) rfl
theorem ml_L_129 : Cond.methodLink RL 129 yL_drop ∈ TBL := tb_3 60 (by decide +kernel) rfl
theorem st_yL_drop : Cond.static yL_drop ∈ TBL := tb_3 61 (by decide +kernel) rfl
theorem ml_L_50 : Cond.methodLink RL 50 yX6_drop ∈ TBL := tb_3 63 (by decide +kernel) rfl
theorem im_yX6_drop : Cond.instanceMethod yX6_drop ∈ TBL := tb_3 64 (by decide +kernel) rfl
theorem se_yX6_drop : Cond.selects RX6 yX6_drop yX6_drop ∈ TBL := tb_3 65 (by decide +kernel) rfl
theorem cd_yX6_drop : Cond.code yX6_drop cX6_drop 2 (some .int) ∈ TBL := tb_3 66 (by decide +kernel) rfl
theorem ml_X6_225 : Cond.methodLink RX6 225 yX6_isOrder ∈ TBL := tb_3 67 (by decide +kernel) rfl
theorem im_yX6_isOrder : Cond.instanceMethod yX6_isOrder ∈ TBL := tb_3 69 (by decide +kernel) rfl
theorem cd_yX6_isOrder : Cond.code yX6_isOrder cX6_isOrder 2 (some .boolean) ∈ TBL := tb_3 70 (by decide +kernel) rfl
theorem ml_X6_230 : Cond.methodLink RX6 230 yX2_remove ∈ TBL := tb_3 72 (by decide +kernel) rfl
theorem im_yX2_remove : Cond.instanceMethod yX2_remove ∈ TBL := tb_3 73 (by decide +kernel) rfl
theorem se_yX2_remove : Cond.selects RX2 yX2_remove yX2_remove ∈ TBL := tb_3 74 (by decide +kernel) rfl
theorem cd_yX2_remove : Cond.code yX2_remove cX2_remove 3 none ∈ TBL := tb_3 75 (by decide +kernel) rfl
theorem ml_X2_33 : Cond.methodLink RX2 33 yX3_get ∈ TBL := tb_3 76 (by decide +kernel) rfl
theorem ml_L_132 : Cond.methodLink RL 132 yL_pass ∈ TBL := tb_3 77 (by decide +kernel) rfl
theorem st_yL_pass : Cond.static yL_pass ∈ TBL := tb_3 78 (by decide +kernel) rfl
theorem ml_L_53 : Cond.methodLink RL 53 yX6_pass ∈ TBL := tb_3 80 (by decide +kernel) rfl
theorem im_yX6_pass : Cond.instanceMethod yX6_pass ∈ TBL := tb_3 81 (by decide +kernel) rfl
theorem se_yX6_pass : Cond.selects RX6 yX6_pass yX6_pass ∈ TBL := tb_3 82 (by decide +kernel) rfl
theorem cd_yX6_pass : Cond.code yX6_pass cX6_pass 5 (some .int) ∈ TBL := tb_3 83 (by decide +kernel) rfl
theorem ml_X6_235 : Cond.methodLink RX6 235 yX6_workAnHour ∈ TBL := tb_3 85 (by decide +kernel) rfl
theorem im_yX6_workAnHour : Cond.instanceMethod yX6_workAnHour ∈ TBL := tb_3 87 (by decide +kernel) rfl
theorem cd_yX6_workAnHour : Cond.code yX6_workAnHour cX6_workAnHour 5 (some .int) ∈ TBL := tb_3 88 (by decide +kernel) rfl
theorem ml_X6_363 : Cond.methodLink RX6 363 yX6_firstFor ∈ TBL := tb_3 89 (by decide +kernel) rfl
theorem im_yX6_firstFor : Cond.instanceMethod yX6_firstFor ∈ TBL := tb_3 91 (by decide +kernel) rfl
theorem cd_yX6_firstFor : Cond.code yX6_firstFor cX6_firstFor 3 (some .int) ∈ TBL := tb_3 92 (by decide +kernel) rfl
theorem ml_X6_303 : Cond.methodLink RX6 303 yX6_canDo ∈ TBL := tb_3 93 (by decide +kernel) rfl
theorem im_yX6_canDo : Cond.instanceMethod yX6_canDo ∈ TBL := tb_3 95 (by decide +kernel) rfl
theorem cd_yX6_canDo : Cond.code yX6_canDo cX6_canDo 5 (some .boolean) ∈ TBL := tb_3 96 (by decide +kernel) rfl
theorem ml_X6_354 : Cond.methodLink RX6 354 yX1_reaches ∈ TBL := tb_3 97 (by decide +kernel) rfl
theorem im_yX1_reaches : Cond.instanceMethod yX1_reaches ∈ TBL := tb_3 98 (by decide +kernel) rfl
theorem se_yX1_reaches : Cond.selects RX1 yX1_reaches yX1_reaches ∈ TBL := tb_3 99 (by decide +kernel) rfl
theorem cd_yX1_reaches : Cond.code yX1_reaches cX1_reaches 3 (some .boolean) ∈ TBL := tb_3 100 (by decide +kernel) rfl
theorem ml_X1_26 : Cond.methodLink RX1 26 yX3_get ∈ TBL := tb_3 101 (by decide +kernel) rfl
theorem ml_X6_357 : Cond.methodLink RX6 357 yX6_canLoad ∈ TBL := tb_3 102 (by decide +kernel) rfl
theorem im_yX6_canLoad : Cond.instanceMethod yX6_canLoad ∈ TBL := tb_3 104 (by decide +kernel) rfl
theorem cd_yX6_canLoad : Cond.code yX6_canLoad cX6_canLoad 2 (some .boolean) ∈ TBL := tb_3 105 (by decide +kernel) rfl
theorem ml_X6_306 : Cond.methodLink RX6 306 yX6_mayBeIn ∈ TBL := tb_3 106 (by decide +kernel) rfl
theorem im_yX6_mayBeIn : Cond.instanceMethod yX6_mayBeIn ∈ TBL := tb_3 108 (by decide +kernel) rfl
theorem cd_yX6_mayBeIn : Cond.code yX6_mayBeIn cX6_mayBeIn 5 (some .boolean) ∈ TBL := tb_3 109 (by decide +kernel) rfl
theorem ml_X6_297 : Cond.methodLink RX6 297 yX6_isUnderHatch ∈ TBL := tb_3 110 (by decide +kernel) rfl
theorem st_yX6_isUnderHatch : Cond.static yX6_isUnderHatch ∈ TBL := tb_3 111 (by decide +kernel) rfl
theorem cd_yX6_isUnderHatch : Cond.code yX6_isUnderHatch cX6_isUnderHatch 1 (some .boolean) ∈ TBL := tb_3 112 (by decide +kernel) rfl
theorem ml_X6_321 : Cond.methodLink RX6 321 yX6_restsOnBox ∈ TBL := tb_3 113 (by decide +kernel) rfl
theorem st_yX6_restsOnBox : Cond.static yX6_restsOnBox ∈ TBL := tb_3 114 (by decide +kernel) rfl
theorem cd_yX6_restsOnBox : Cond.code yX6_restsOnBox cX6_restsOnBox 1 (some .boolean) ∈ TBL := tb_3 115 (by decide +kernel) rfl
theorem ml_X6_324 : Cond.methodLink RX6 324 yX6_isApartIn ∈ TBL := tb_3 116 (by decide +kernel) rfl
theorem im_yX6_isApartIn : Cond.instanceMethod yX6_isApartIn ∈ TBL := tb_3 118 (by decide +kernel) rfl
theorem cd_yX6_isApartIn : Cond.code yX6_isApartIn cX6_isApartIn 7 (some .boolean) ∈ TBL := tb_3 119 (by decide +kernel) rfl
theorem ml_X6_360 : Cond.methodLink RX6 360 yX6_canTake ∈ TBL := tb_3 120 (by decide +kernel) rfl
theorem im_yX6_canTake : Cond.instanceMethod yX6_canTake ∈ TBL := tb_3 122 (by decide +kernel) rfl
theorem cd_yX6_canTake : Cond.code yX6_canTake cX6_canTake 4 (some .boolean) ∈ TBL := tb_3 123 (by decide +kernel) rfl
theorem ml_X6_330 : Cond.methodLink RX6 330 yX4_boxOver ∈ TBL := tb_3 124 (by decide +kernel) rfl
theorem im_yX4_boxOver : Cond.instanceMethod yX4_boxOver ∈ TBL := tb_3 125 (by decide +kernel) rfl
theorem se_yX4_boxOver : Cond.selects RX4 yX4_boxOver yX4_boxOver ∈ TBL := tb_3 126 (by decide +kernel) rfl
theorem cd_yX4_boxOver : Cond.code yX4_boxOver cX4_boxOver 2 (some .int) ∈ TBL := tb_3 127 (by decide +kernel) rfl
theorem ml_X6_274 : Cond.methodLink RX6 274 yX6_isJammed ∈ TBL := tb_3 129 (by decide +kernel) rfl
theorem im_yX6_isJammed : Cond.instanceMethod yX6_isJammed ∈ TBL := tb_3 131 (by decide +kernel) rfl
theorem cd_yX6_isJammed : Cond.code yX6_isJammed cX6_isJammed 2 (some .boolean) ∈ TBL := tb_3 132 (by decide +kernel) rfl
theorem ml_X6_300 : Cond.methodLink RX6 300 yX4_boxesOnTop ∈ TBL := tb_3 133 (by decide +kernel) rfl
theorem im_yX4_boxesOnTop : Cond.instanceMethod yX4_boxesOnTop ∈ TBL := tb_3 134 (by decide +kernel) rfl
theorem se_yX4_boxesOnTop : Cond.selects RX4 yX4_boxesOnTop yX4_boxesOnTop ∈ TBL := tb_3 135 (by decide +kernel) rfl
theorem cd_yX4_boxesOnTop : Cond.code yX4_boxesOnTop cX4_boxesOnTop 5 (some .int) ∈ TBL := tb_3 136 (by decide +kernel) rfl
theorem ml_X4_46 : Cond.methodLink RX4 46 yX4_boxIn ∈ TBL := tb_3 137 (by decide +kernel) rfl
theorem ml_X6_366 : Cond.methodLink RX6 366 yX6_lift ∈ TBL := tb_3 138 (by decide +kernel) rfl
theorem im_yX6_lift : Cond.instanceMethod yX6_lift ∈ TBL := tb_3 140 (by decide +kernel) rfl
theorem cd_yX6_lift : Cond.code yX6_lift cX6_lift 4 none ∈ TBL := tb_3 141 (by decide +kernel) rfl
theorem ml_X6_372 : Cond.methodLink RX6 372 yX6_takeAway ∈ TBL := tb_3 142 (by decide +kernel) rfl
theorem im_yX6_takeAway : Cond.instanceMethod yX6_takeAway ∈ TBL := tb_3 144 (by decide +kernel) rfl
theorem cd_yX6_takeAway : Cond.code yX6_takeAway cX6_takeAway 3 none ∈ TBL := tb_3 145 (by decide +kernel) rfl
theorem ml_X6_338 : Cond.methodLink RX6 338 yX4_take ∈ TBL := tb_3 146 (by decide +kernel) rfl
theorem im_yX4_take : Cond.instanceMethod yX4_take ∈ TBL := tb_3 147 (by decide +kernel) rfl
theorem se_yX4_take : Cond.selects RX4 yX4_take yX4_take ∈ TBL := tb_3 148 (by decide +kernel) rfl
theorem cd_yX4_take : Cond.code yX4_take cX4_take 3 none ∈ TBL := tb_3 149 (by decide +kernel) rfl
theorem ml_X4_55 : Cond.methodLink RX4 55 yX4_addWeight ∈ TBL := tb_3 150 (by decide +kernel) rfl
theorem im_yX4_addWeight : Cond.instanceMethod yX4_addWeight ∈ TBL := tb_3 152 (by decide +kernel) rfl
theorem cd_yX4_addWeight : Cond.code yX4_addWeight cX4_addWeight 3 none ∈ TBL := tb_3 153 (by decide +kernel) rfl
theorem ml_X4_61 : Cond.methodLink RX4 61 yX3_add ∈ TBL := tb_3 155 (by decide +kernel) rfl
theorem ml_X6_341 : Cond.methodLink RX6 341 yX5_takeTop ∈ TBL := tb_3 157 (by decide +kernel) rfl
theorem im_yX5_takeTop : Cond.instanceMethod yX5_takeTop ∈ TBL := tb_3 158 (by decide +kernel) rfl
theorem se_yX5_takeTop : Cond.selects RX5 yX5_takeTop yX5_takeTop ∈ TBL := tb_3 159 (by decide +kernel) rfl
theorem cd_yX5_takeTop : Cond.code yX5_takeTop cX5_takeTop 2 none ∈ TBL := tb_3 160 (by decide +kernel) rfl
theorem ml_X6_375 : Cond.methodLink RX6 375 yX6_putOnShip ∈ TBL := tb_3 161 (by decide +kernel) rfl
theorem im_yX6_putOnShip : Cond.instanceMethod yX6_putOnShip ∈ TBL := tb_3 163 (by decide +kernel) rfl
theorem cd_yX6_putOnShip : Cond.code yX6_putOnShip cX6_putOnShip 3 none ∈ TBL := tb_3 164 (by decide +kernel) rfl
theorem ml_X6_336 : Cond.methodLink RX6 336 yX4_put ∈ TBL := tb_3 165 (by decide +kernel) rfl
theorem im_yX4_put : Cond.instanceMethod yX4_put ∈ TBL := tb_3 166 (by decide +kernel) rfl
theorem se_yX4_put : Cond.selects RX4 yX4_put yX4_put ∈ TBL := tb_3 167 (by decide +kernel) rfl
theorem cd_yX4_put : Cond.code yX4_put cX4_put 4 none ∈ TBL := tb_3 168 (by decide +kernel) rfl
theorem ml_X6_241 : Cond.methodLink RX6 241 yX6_overdueBoxes ∈ TBL := tb_3 169 (by decide +kernel) rfl
theorem im_yX6_overdueBoxes : Cond.instanceMethod yX6_overdueBoxes ∈ TBL := tb_3 171 (by decide +kernel) rfl
theorem cd_yX6_overdueBoxes : Cond.code yX6_overdueBoxes cX6_overdueBoxes 3 (some .int) ∈ TBL := tb_3 172 (by decide +kernel) rfl
theorem ml_L_135 : Cond.methodLink RL 135 yL_leave ∈ TBL := tb_3 173 (by decide +kernel) rfl
theorem st_yL_leave : Cond.static yL_leave ∈ TBL := tb_3 174 (by decide +kernel) rfl
theorem ml_L_56 : Cond.methodLink RL 56 yX6_leave ∈ TBL := tb_3 176 (by decide +kernel) rfl
theorem im_yX6_leave : Cond.instanceMethod yX6_leave ∈ TBL := tb_3 177 (by decide +kernel) rfl
theorem se_yX6_leave : Cond.selects RX6 yX6_leave yX6_leave ∈ TBL := tb_3 178 (by decide +kernel) rfl
theorem cd_yX6_leave : Cond.code yX6_leave cX6_leave 2 (some .int) ∈ TBL := tb_3 179 (by decide +kernel) rfl
theorem ml_X6_245 : Cond.methodLink RX6 245 yX6_bars ∈ TBL := tb_3 180 (by decide +kernel) rfl
theorem ml_X6_253 : Cond.methodLink RX6 253 yX5_clear ∈ TBL := tb_3 182 (by decide +kernel) rfl
theorem im_yX5_clear : Cond.instanceMethod yX5_clear ∈ TBL := tb_3 183 (by decide +kernel) rfl
theorem se_yX5_clear : Cond.selects RX5 yX5_clear yX5_clear ∈ TBL := tb_3 184 (by decide +kernel) rfl
theorem cd_yX5_clear : Cond.code yX5_clear cX5_clear 1 none ∈ TBL := tb_3 185 (by decide +kernel) rfl
theorem ml_X5_37 : Cond.methodLink RX5 37 yX3_fill ∈ TBL := tb_3 186 (by decide +kernel) rfl
theorem im_yX3_fill : Cond.instanceMethod yX3_fill ∈ TBL := tb_3 187 (by decide +kernel) rfl
theorem se_yX3_fill : Cond.selects RX3 yX3_fill yX3_fill ∈ TBL := tb_3 188 (by decide +kernel) rfl
theorem cd_yX3_fill : Cond.code yX3_fill cX3_fill 3 none ∈ TBL := tb_3 189 (by decide +kernel) rfl
theorem ml_L_151 : Cond.methodLink RL 151 yL_of ∈ TBL := tb_3 190 (by decide +kernel) rfl
theorem st_yL_of : Cond.static yL_of ∈ TBL := tb_3 191 (by decide +kernel) rfl
theorem ml_L_60 : Cond.methodLink RL 60 yX6_of ∈ TBL := tb_3 193 (by decide +kernel) rfl
theorem im_yX6_of : Cond.instanceMethod yX6_of ∈ TBL := tb_3 194 (by decide +kernel) rfl
theorem se_yX6_of : Cond.selects RX6 yX6_of yX6_of ∈ TBL := tb_3 195 (by decide +kernel) rfl
theorem cd_yX6_of : Cond.code yX6_of cX6_of 3 (some .int) ∈ TBL := tb_3 196 (by decide +kernel) rfl
theorem ml_X6_264 : Cond.methodLink RX6 264 yX6_boxesOn ∈ TBL := tb_3 197 (by decide +kernel) rfl
theorem im_yX6_boxesOn : Cond.instanceMethod yX6_boxesOn ∈ TBL := tb_3 199 (by decide +kernel) rfl
theorem cd_yX6_boxesOn : Cond.code yX6_boxesOn cX6_boxesOn 3 (some .int) ∈ TBL := tb_3 200 (by decide +kernel) rfl
theorem ml_X6_327 : Cond.methodLink RX6 327 yX5_boxesOver ∈ TBL := tb_3 201 (by decide +kernel) rfl
theorem im_yX5_boxesOver : Cond.instanceMethod yX5_boxesOver ∈ TBL := tb_3 202 (by decide +kernel) rfl
theorem se_yX5_boxesOver : Cond.selects RX5 yX5_boxesOver yX5_boxesOver ∈ TBL := tb_3 203 (by decide +kernel) rfl
theorem cd_yX5_boxesOver : Cond.code yX5_boxesOver cX5_boxesOver 5 (some .int) ∈ TBL := tb_3 204 (by decide +kernel) rfl
theorem ml_X5_27 : Cond.methodLink RX5 27 yX5_boxIn ∈ TBL := tb_3 205 (by decide +kernel) rfl
theorem im_yX5_boxIn : Cond.instanceMethod yX5_boxIn ∈ TBL := tb_3 206 (by decide +kernel) rfl
theorem se_yX5_boxIn : Cond.selects RX5 yX5_boxIn yX5_boxIn ∈ TBL := tb_3 207 (by decide +kernel) rfl
theorem cd_yX5_boxIn : Cond.code yX5_boxIn cX5_boxIn 3 (some .int) ∈ TBL := tb_3 208 (by decide +kernel) rfl
theorem ml_L_154 : Cond.methodLink RL 154 yL_at ∈ TBL := tb_3 209 (by decide +kernel) rfl
theorem st_yL_at : Cond.static yL_at ∈ TBL := tb_3 210 (by decide +kernel) rfl
theorem ml_L_63 : Cond.methodLink RL 63 yX6_at ∈ TBL := tb_3 212 (by decide +kernel) rfl
theorem im_yX6_at : Cond.instanceMethod yX6_at ∈ TBL := tb_3 213 (by decide +kernel) rfl
theorem se_yX6_at : Cond.selects RX6 yX6_at yX6_at ∈ TBL := tb_3 214 (by decide +kernel) rfl
theorem cd_yX6_at : Cond.code yX6_at cX6_at 2 (some .int) ∈ TBL := tb_3 215 (by decide +kernel) rfl
theorem ml_L_157 : Cond.methodLink RL 157 yL_inYard ∈ TBL := tb_3 216 (by decide +kernel) rfl
theorem st_yL_inYard : Cond.static yL_inYard ∈ TBL := tb_3 217 (by decide +kernel) rfl
theorem ml_L_66 : Cond.methodLink RL 66 yX6_inYard ∈ TBL := tb_3 219 (by decide +kernel) rfl
theorem im_yX6_inYard : Cond.instanceMethod yX6_inYard ∈ TBL := tb_3 220 (by decide +kernel) rfl
theorem se_yX6_inYard : Cond.selects RX6 yX6_inYard yX6_inYard ∈ TBL := tb_3 221 (by decide +kernel) rfl
theorem cd_yX6_inYard : Cond.code yX6_inYard cX6_inYard 3 (some .int) ∈ TBL := tb_3 222 (by decide +kernel) rfl
theorem ml_X6_269 : Cond.methodLink RX6 269 yX5_boxIn ∈ TBL := tb_3 224 (by decide +kernel) rfl
theorem ml_L_160 : Cond.methodLink RL 160 yL_hatch ∈ TBL := tb_3 225 (by decide +kernel) rfl
theorem st_yL_hatch : Cond.static yL_hatch ∈ TBL := tb_3 226 (by decide +kernel) rfl
theorem ml_L_69 : Cond.methodLink RL 69 yX6_hatch ∈ TBL := tb_3 228 (by decide +kernel) rfl
theorem im_yX6_hatch : Cond.instanceMethod yX6_hatch ∈ TBL := tb_3 229 (by decide +kernel) rfl
theorem se_yX6_hatch : Cond.selects RX6 yX6_hatch yX6_hatch ∈ TBL := tb_3 230 (by decide +kernel) rfl
theorem cd_yX6_hatch : Cond.code yX6_hatch cX6_hatch 2 (some .int) ∈ TBL := tb_3 231 (by decide +kernel) rfl
theorem ml_L_163 : Cond.methodLink RL 163 yL_moment ∈ TBL := tb_3 232 (by decide +kernel) rfl
theorem st_yL_moment : Cond.static yL_moment ∈ TBL := tb_3 233 (by decide +kernel) rfl
theorem ml_L_72 : Cond.methodLink RL 72 yX6_moment ∈ TBL := tb_3 235 (by decide +kernel) rfl
theorem im_yX6_moment : Cond.instanceMethod yX6_moment ∈ TBL := tb_3 236 (by decide +kernel) rfl
theorem se_yX6_moment : Cond.selects RX6 yX6_moment yX6_moment ∈ TBL := tb_3 237 (by decide +kernel) rfl
theorem cd_yX6_moment : Cond.code yX6_moment cX6_moment 2 (some .int) ∈ TBL := tb_3 238 (by decide +kernel) rfl
theorem ml_L_166 : Cond.methodLink RL 166 yL_momentAnew ∈ TBL := tb_3 239 (by decide +kernel) rfl
theorem st_yL_momentAnew : Cond.static yL_momentAnew ∈ TBL := tb_4 0 (by decide +kernel) rfl
theorem ml_L_75 : Cond.methodLink RL 75 yX6_momentAnew ∈ TBL := tb_4 2 (by decide +kernel) rfl
theorem im_yX6_momentAnew : Cond.instanceMethod yX6_momentAnew ∈ TBL := tb_4 3 (by decide +kernel) rfl
theorem se_yX6_momentAnew : Cond.selects RX6 yX6_momentAnew yX6_momentAnew ∈ TBL := tb_4 4 (by decide +kernel) rfl
theorem cd_yX6_momentAnew : Cond.code yX6_momentAnew cX6_momentAnew 6 (some .int) ∈ TBL := tb_4 5 (by decide +kernel) rfl
theorem ml_L_173 : Cond.methodLink RL 173 yL_dig ∈ TBL := tb_4 6 (by decide +kernel) rfl
theorem st_yL_dig : Cond.static yL_dig ∈ TBL := tb_4 7 (by decide +kernel) rfl
theorem ml_L_78 : Cond.methodLink RL 78 yX6_dig ∈ TBL := tb_4 9 (by decide +kernel) rfl
theorem im_yX6_dig : Cond.instanceMethod yX6_dig ∈ TBL := tb_4 10 (by decide +kernel) rfl
theorem se_yX6_dig : Cond.selects RX6 yX6_dig yX6_dig ∈ TBL := tb_4 11 (by decide +kernel) rfl
theorem cd_yX6_dig : Cond.code yX6_dig cX6_dig 4 (some .int) ∈ TBL := tb_4 12 (by decide +kernel) rfl
theorem ml_L_180 : Cond.methodLink RL 180 yL_can ∈ TBL := tb_4 14 (by decide +kernel) rfl
theorem st_yL_can : Cond.static yL_can ∈ TBL := tb_4 15 (by decide +kernel) rfl
theorem ml_L_81 : Cond.methodLink RL 81 yX6_can ∈ TBL := tb_4 17 (by decide +kernel) rfl
theorem im_yX6_can : Cond.instanceMethod yX6_can ∈ TBL := tb_4 18 (by decide +kernel) rfl
theorem se_yX6_can : Cond.selects RX6 yX6_can yX6_can ∈ TBL := tb_4 19 (by decide +kernel) rfl
theorem cd_yX6_can : Cond.code yX6_can cX6_can 3 (some .boolean) ∈ TBL := tb_4 20 (by decide +kernel) rfl
theorem ml_L_183 : Cond.methodLink RL 183 yL_may ∈ TBL := tb_4 21 (by decide +kernel) rfl
theorem st_yL_may : Cond.static yL_may ∈ TBL := tb_4 22 (by decide +kernel) rfl
theorem ml_L_84 : Cond.methodLink RL 84 yX6_may ∈ TBL := tb_4 24 (by decide +kernel) rfl
theorem im_yX6_may : Cond.instanceMethod yX6_may ∈ TBL := tb_4 25 (by decide +kernel) rfl
theorem se_yX6_may : Cond.selects RX6 yX6_may yX6_may ∈ TBL := tb_4 26 (by decide +kernel) rfl
theorem cd_yX6_may : Cond.code yX6_may cX6_may 3 (some .boolean) ∈ TBL := tb_4 27 (by decide +kernel) rfl
theorem cl_L_88 : Cond.classLink RL 88 RX7 ∈ TBL := tb_4 28 (by decide +kernel) rfl
theorem it_X7 : Cond.instantiable RX7 31 ∈ TBL := tb_4 29 (by decide +kernel) rfl
theorem ml_L_90 : Cond.methodLink RL 90 yX7_init ∈ TBL := tb_4 30 (by decide +kernel) rfl
theorem im_yX7_init : Cond.instanceMethod yX7_init ∈ TBL := tb_4 31 (by decide +kernel) rfl
theorem cd_yX7_init : Cond.code yX7_init cX7_init 2 none ∈ TBL := tb_4 32 (by decide +kernel) rfl
theorem ml_X7_1 : Cond.methodLink RX7 1 objectInit ∈ TBL := tb_4 33 (by decide +kernel) rfl
theorem fl_X7_87 : Cond.fieldLink RX7 87 "CargoHeelModel" "thrown" "I" ∈ TBL := tb_4 34 (by decide +kernel) rfl
theorem fl_X7_7 : Cond.fieldLink RX7 7 "CargoHeelModel" "slot" "[I" ∈ TBL := tb_4 35 (by decide +kernel) rfl
theorem fl_X7_13 : Cond.fieldLink RX7 13 "CargoHeelModel" "hasPlug" "[Z" ∈ TBL := tb_4 36 (by decide +kernel) rfl
theorem fl_X7_17 : Cond.fieldLink RX7 17 "CargoHeelModel" "isOpen" "[Z" ∈ TBL := tb_4 37 (by decide +kernel) rfl
theorem fl_X7_20 : Cond.fieldLink RX7 20 "CargoHeelModel" "jammedTo" "[I" ∈ TBL := tb_4 38 (by decide +kernel) rfl
theorem fl_X7_23 : Cond.fieldLink RX7 23 "CargoHeelModel" "water" "[I" ∈ TBL := tb_4 39 (by decide +kernel) rfl
theorem fl_X7_26 : Cond.fieldLink RX7 26 "CargoHeelModel" "mostTrim" "I" ∈ TBL := tb_4 40 (by decide +kernel) rfl
theorem fl_X7_30 : Cond.fieldLink RX7 30 "CargoHeelModel" "mostHeel" "I" ∈ TBL := tb_4 41 (by decide +kernel) rfl
theorem fl_X7_33 : Cond.fieldLink RX7 33 "CargoHeelModel" "mostBending" "I" ∈ TBL := tb_4 42 (by decide +kernel) rfl
theorem fl_X7_94 : Cond.fieldLink RX7 94 "CargoHeelModel" "boxes" "I" ∈ TBL := tb_4 43 (by decide +kernel) rfl
theorem fl_X7_36 : Cond.fieldLink RX7 36 "CargoHeelModel" "told" "[I" ∈ TBL := tb_4 44 (by decide +kernel) rfl
theorem fl_X7_39 : Cond.fieldLink RX7 39 "CargoHeelModel" "truth" "[I" ∈ TBL := tb_4 45 (by decide +kernel) rfl
theorem fl_X7_42 : Cond.fieldLink RX7 42 "CargoHeelModel" "port" "[I" ∈ TBL := tb_4 46 (by decide +kernel) rfl
theorem fl_X7_45 : Cond.fieldLink RX7 45 "CargoHeelModel" "kind" "[I" ∈ TBL := tb_4 47 (by decide +kernel) rfl
theorem fl_X7_48 : Cond.fieldLink RX7 48 "CargoHeelModel" "papers" "[I" ∈ TBL := tb_4 48 (by decide +kernel) rfl
theorem fl_X7_51 : Cond.fieldLink RX7 51 "CargoHeelModel" "where" "[I" ∈ TBL := tb_4 49 (by decide +kernel) rfl
theorem fl_X7_54 : Cond.fieldLink RX7 54 "CargoHeelModel" "place" "[I" ∈ TBL := tb_4 50 (by decide +kernel) rfl
theorem fl_X7_57 : Cond.fieldLink RX7 57 "CargoHeelModel" "high" "[I" ∈ TBL := tb_4 51 (by decide +kernel) rfl
theorem fl_X7_60 : Cond.fieldLink RX7 60 "CargoHeelModel" "stack" "[I" ∈ TBL := tb_4 52 (by decide +kernel) rfl
theorem fl_X7_100 : Cond.fieldLink RX7 100 "CargoHeelModel" "now" "I" ∈ TBL := tb_4 53 (by decide +kernel) rfl
theorem fl_X7_63 : Cond.fieldLink RX7 63 "CargoHeelModel" "isOut" "[Z" ∈ TBL := tb_4 54 (by decide +kernel) rfl
theorem fl_X7_66 : Cond.fieldLink RX7 66 "CargoHeelModel" "from" "[I" ∈ TBL := tb_4 55 (by decide +kernel) rfl
theorem fl_X7_69 : Cond.fieldLink RX7 69 "CargoHeelModel" "to" "[I" ∈ TBL := tb_4 56 (by decide +kernel) rfl
theorem fl_X7_72 : Cond.fieldLink RX7 72 "CargoHeelModel" "lifts" "[I" ∈ TBL := tb_4 57 (by decide +kernel) rfl
theorem fl_X7_97 : Cond.fieldLink RX7 97 "CargoHeelModel" "orders" "I" ∈ TBL := tb_4 58 (by decide +kernel) rfl
theorem fl_X7_75 : Cond.fieldLink RX7 75 "CargoHeelModel" "what" "[I" ∈ TBL := tb_4 59 (by decide +kernel) rfl
theorem fl_X7_78 : Cond.fieldLink RX7 78 "CargoHeelModel" "its" "[I" ∈ TBL := tb_4 60 (by decide +kernel) rfl
theorem fl_X7_81 : Cond.fieldLink RX7 81 "CargoHeelModel" "goal" "[I" ∈ TBL := tb_4 61 (by decide +kernel) rfl
theorem fl_X7_114 : Cond.fieldLink RX7 114 "CargoHeelModel" "hour" "I" ∈ TBL := tb_4 62 (by decide +kernel) rfl
theorem fl_X7_186 : Cond.fieldLink RX7 186 "CargoHeelModel" "cost" "I" ∈ TBL := tb_4 63 (by decide +kernel) rfl
theorem fl_X7_84 : Cond.fieldLink RX7 84 "CargoHeelModel" "load" "[I" ∈ TBL := tb_4 64 (by decide +kernel) rfl
theorem ac_boolean : Cond.arrayClass .boolean ∈ TBL := tb_4 128 (by decide +kernel) rfl
theorem ml_L_97 : Cond.methodLink RL 97 yX7_thrown ∈ TBL := tb_4 129 (by decide +kernel) rfl
theorem im_yX7_thrown : Cond.instanceMethod yX7_thrown ∈ TBL := tb_4 130 (by decide +kernel) rfl
theorem se_yX7_thrown : Cond.selects RX7 yX7_thrown yX7_thrown ∈ TBL := tb_4 131 (by decide +kernel) rfl
theorem cd_yX7_thrown : Cond.code yX7_thrown cX7_thrown 1 (some .int) ∈ TBL := tb_4 132 (by decide +kernel) rfl
theorem ml_L_96 : Cond.methodLink RL 96 yX7_plug ∈ TBL := tb_4 133 (by decide +kernel) rfl
theorem im_yX7_plug : Cond.instanceMethod yX7_plug ∈ TBL := tb_4 134 (by decide +kernel) rfl
theorem se_yX7_plug : Cond.selects RX7 yX7_plug yX7_plug ∈ TBL := tb_4 135 (by decide +kernel) rfl
theorem cd_yX7_plug : Cond.code yX7_plug cX7_plug 3 (some .boolean) ∈ TBL := tb_4 136 (by decide +kernel) rfl
theorem ml_X7_103 : Cond.methodLink RX7 103 yX7_isSlot ∈ TBL := tb_4 137 (by decide +kernel) rfl
theorem st_yX7_isSlot : Cond.static yX7_isSlot ∈ TBL := tb_4 138 (by decide +kernel) rfl
theorem cd_yX7_isSlot : Cond.code yX7_isSlot cX7_isSlot 1 (some .boolean) ∈ TBL := tb_4 139 (by decide +kernel) rfl
theorem ml_X7_90 : Cond.methodLink RX7 90 yX7_in ∈ TBL := tb_4 140 (by decide +kernel) rfl
theorem st_yX7_in : Cond.static yX7_in ∈ TBL := tb_4 141 (by decide +kernel) rfl
theorem cd_yX7_in : Cond.code yX7_in cX7_in 3 (some .boolean) ∈ TBL := tb_4 142 (by decide +kernel) rfl
theorem ml_X7_107 : Cond.methodLink RX7 107 yX7_indexOf ∈ TBL := tb_4 143 (by decide +kernel) rfl
theorem st_yX7_indexOf : Cond.static yX7_indexOf ∈ TBL := tb_4 144 (by decide +kernel) rfl
theorem cd_yX7_indexOf : Cond.code yX7_indexOf cX7_indexOf 1 (some .int) ∈ TBL := tb_4 145 (by decide +kernel) rfl
theorem ml_L_103 : Cond.methodLink RL 103 yX7_bounds ∈ TBL := tb_4 146 (by decide +kernel) rfl
theorem im_yX7_bounds : Cond.instanceMethod yX7_bounds ∈ TBL := tb_4 147 (by decide +kernel) rfl
theorem se_yX7_bounds : Cond.selects RX7 yX7_bounds yX7_bounds ∈ TBL := tb_4 148 (by decide +kernel) rfl
theorem cd_yX7_bounds : Cond.code yX7_bounds cX7_bounds 4 none ∈ TBL := tb_4 149 (by decide +kernel) rfl
theorem ml_L_107 : Cond.methodLink RL 107 yX7_tank ∈ TBL := tb_4 150 (by decide +kernel) rfl
theorem im_yX7_tank : Cond.instanceMethod yX7_tank ∈ TBL := tb_4 151 (by decide +kernel) rfl
theorem se_yX7_tank : Cond.selects RX7 yX7_tank yX7_tank ∈ TBL := tb_4 152 (by decide +kernel) rfl
theorem cd_yX7_tank : Cond.code yX7_tank cX7_tank 4 (some .int) ∈ TBL := tb_4 153 (by decide +kernel) rfl
theorem ml_X7_111 : Cond.methodLink RX7 111 yX7_isBay ∈ TBL := tb_4 154 (by decide +kernel) rfl
theorem st_yX7_isBay : Cond.static yX7_isBay ∈ TBL := tb_4 155 (by decide +kernel) rfl
theorem cd_yX7_isBay : Cond.code yX7_isBay cX7_isBay 1 (some .boolean) ∈ TBL := tb_4 156 (by decide +kernel) rfl
theorem ml_L_110 : Cond.methodLink RL 110 yX7_jam ∈ TBL := tb_4 157 (by decide +kernel) rfl
theorem im_yX7_jam : Cond.instanceMethod yX7_jam ∈ TBL := tb_4 158 (by decide +kernel) rfl
theorem se_yX7_jam : Cond.selects RX7 yX7_jam yX7_jam ∈ TBL := tb_4 159 (by decide +kernel) rfl
theorem cd_yX7_jam : Cond.code yX7_jam cX7_jam 3 (some .int) ∈ TBL := tb_4 160 (by decide +kernel) rfl
theorem ml_L_114 : Cond.methodLink RL 114 yX7_crane ∈ TBL := tb_4 161 (by decide +kernel) rfl
theorem im_yX7_crane : Cond.instanceMethod yX7_crane ∈ TBL := tb_4 162 (by decide +kernel) rfl
theorem se_yX7_crane : Cond.selects RX7 yX7_crane yX7_crane ∈ TBL := tb_4 163 (by decide +kernel) rfl
theorem cd_yX7_crane : Cond.code yX7_crane cX7_crane 5 none ∈ TBL := tb_4 164 (by decide +kernel) rfl
theorem ml_X7_117 : Cond.methodLink RX7 117 yX7_isCrane ∈ TBL := tb_4 165 (by decide +kernel) rfl
theorem st_yX7_isCrane : Cond.static yX7_isCrane ∈ TBL := tb_4 166 (by decide +kernel) rfl
theorem cd_yX7_isCrane : Cond.code yX7_isCrane cX7_isCrane 1 (some .boolean) ∈ TBL := tb_4 167 (by decide +kernel) rfl
theorem ml_L_118 : Cond.methodLink RL 118 yX7_box ∈ TBL := tb_4 168 (by decide +kernel) rfl
theorem im_yX7_box : Cond.instanceMethod yX7_box ∈ TBL := tb_4 169 (by decide +kernel) rfl
theorem se_yX7_box : Cond.selects RX7 yX7_box yX7_box ∈ TBL := tb_4 170 (by decide +kernel) rfl
theorem cd_yX7_box : Cond.code yX7_box cX7_box 8 (some .int) ∈ TBL := tb_4 171 (by decide +kernel) rfl
theorem ml_X7_133 : Cond.methodLink RX7 133 yX7_isStack ∈ TBL := tb_4 172 (by decide +kernel) rfl
theorem st_yX7_isStack : Cond.static yX7_isStack ∈ TBL := tb_4 173 (by decide +kernel) rfl
theorem cd_yX7_isStack : Cond.code yX7_isStack cX7_isStack 1 (some .boolean) ∈ TBL := tb_4 174 (by decide +kernel) rfl
theorem ml_X7_136 : Cond.methodLink RX7 136 yX7_stackMay ∈ TBL := tb_4 175 (by decide +kernel) rfl
theorem im_yX7_stackMay : Cond.instanceMethod yX7_stackMay ∈ TBL := tb_4 177 (by decide +kernel) rfl
theorem cd_yX7_stackMay : Cond.code yX7_stackMay cX7_stackMay 3 (some .boolean) ∈ TBL := tb_4 178 (by decide +kernel) rfl
theorem ml_X7_123 : Cond.methodLink RX7 123 yX7_fits ∈ TBL := tb_4 179 (by decide +kernel) rfl
theorem im_yX7_fits : Cond.instanceMethod yX7_fits ∈ TBL := tb_4 181 (by decide +kernel) rfl
theorem cd_yX7_fits : Cond.code yX7_fits cX7_fits 3 (some .boolean) ∈ TBL := tb_4 182 (by decide +kernel) rfl
theorem ml_X7_139 : Cond.methodLink RX7 139 yX7_comesTo ∈ TBL := tb_4 183 (by decide +kernel) rfl
theorem im_yX7_comesTo : Cond.instanceMethod yX7_comesTo ∈ TBL := tb_4 185 (by decide +kernel) rfl
theorem cd_yX7_comesTo : Cond.code yX7_comesTo cX7_comesTo 3 none ∈ TBL := tb_4 186 (by decide +kernel) rfl
theorem ml_L_121 : Cond.methodLink RL 121 yX7_paper ∈ TBL := tb_4 187 (by decide +kernel) rfl
theorem im_yX7_paper : Cond.instanceMethod yX7_paper ∈ TBL := tb_4 188 (by decide +kernel) rfl
theorem se_yX7_paper : Cond.selects RX7 yX7_paper yX7_paper ∈ TBL := tb_4 189 (by decide +kernel) rfl
theorem cd_yX7_paper : Cond.code yX7_paper cX7_paper 3 (some .boolean) ∈ TBL := tb_4 190 (by decide +kernel) rfl
theorem ml_X7_143 : Cond.methodLink RX7 143 yX7_isBox ∈ TBL := tb_4 191 (by decide +kernel) rfl
theorem im_yX7_isBox : Cond.instanceMethod yX7_isBox ∈ TBL := tb_4 193 (by decide +kernel) rfl
theorem cd_yX7_isBox : Cond.code yX7_isBox cX7_isBox 2 (some .boolean) ∈ TBL := tb_4 194 (by decide +kernel) rfl
theorem ml_X7_146 : Cond.methodLink RX7 146 yX7_isHeld ∈ TBL := tb_4 195 (by decide +kernel) rfl
theorem im_yX7_isHeld : Cond.instanceMethod yX7_isHeld ∈ TBL := tb_4 197 (by decide +kernel) rfl
theorem cd_yX7_isHeld : Cond.code yX7_isHeld cX7_isHeld 2 (some .boolean) ∈ TBL := tb_4 198 (by decide +kernel) rfl
theorem ml_L_124 : Cond.methodLink RL 124 yX7_skip ∈ TBL := tb_4 199 (by decide +kernel) rfl
theorem im_yX7_skip : Cond.instanceMethod yX7_skip ∈ TBL := tb_4 200 (by decide +kernel) rfl
theorem se_yX7_skip : Cond.selects RX7 yX7_skip yX7_skip ∈ TBL := tb_4 201 (by decide +kernel) rfl
theorem cd_yX7_skip : Cond.code yX7_skip cX7_skip 4 (some .int) ∈ TBL := tb_4 202 (by decide +kernel) rfl
theorem ml_X7_149 : Cond.methodLink RX7 149 yX7_isAhead ∈ TBL := tb_4 203 (by decide +kernel) rfl
theorem im_yX7_isAhead : Cond.instanceMethod yX7_isAhead ∈ TBL := tb_4 205 (by decide +kernel) rfl
theorem cd_yX7_isAhead : Cond.code yX7_isAhead cX7_isAhead 2 (some .boolean) ∈ TBL := tb_4 206 (by decide +kernel) rfl
theorem ml_X7_152 : Cond.methodLink RX7 152 yX7_nextPort ∈ TBL := tb_4 207 (by decide +kernel) rfl
theorem im_yX7_nextPort : Cond.instanceMethod yX7_nextPort ∈ TBL := tb_4 209 (by decide +kernel) rfl
theorem cd_yX7_nextPort : Cond.code yX7_nextPort cX7_nextPort 3 (some .int) ∈ TBL := tb_4 210 (by decide +kernel) rfl
theorem ml_L_128 : Cond.methodLink RL 128 yX7_order ∈ TBL := tb_4 211 (by decide +kernel) rfl
theorem im_yX7_order : Cond.instanceMethod yX7_order ∈ TBL := tb_4 212 (by decide +kernel) rfl
theorem se_yX7_order : Cond.selects RX7 yX7_order yX7_order ∈ TBL := tb_4 213 (by decide +kernel) rfl
theorem cd_yX7_order : Cond.code yX7_order cX7_order 6 (some .int) ∈ TBL := tb_4 214 (by decide +kernel) rfl
theorem ml_L_131 : Cond.methodLink RL 131 yX7_drop ∈ TBL := tb_4 215 (by decide +kernel) rfl
theorem im_yX7_drop : Cond.instanceMethod yX7_drop ∈ TBL := tb_4 216 (by decide +kernel) rfl
theorem se_yX7_drop : Cond.selects RX7 yX7_drop yX7_drop ∈ TBL := tb_4 217 (by decide +kernel) rfl
theorem cd_yX7_drop : Cond.code yX7_drop cX7_drop 2 (some .int) ∈ TBL := tb_4 218 (by decide +kernel) rfl
theorem ml_X7_155 : Cond.methodLink RX7 155 yX7_isOrder ∈ TBL := tb_4 219 (by decide +kernel) rfl
theorem im_yX7_isOrder : Cond.instanceMethod yX7_isOrder ∈ TBL := tb_4 221 (by decide +kernel) rfl
theorem cd_yX7_isOrder : Cond.code yX7_isOrder cX7_isOrder 2 (some .boolean) ∈ TBL := tb_4 222 (by decide +kernel) rfl
theorem ml_X7_158 : Cond.methodLink RX7 158 yX7_removes ∈ TBL := tb_4 223 (by decide +kernel) rfl
theorem im_yX7_removes : Cond.instanceMethod yX7_removes ∈ TBL := tb_4 225 (by decide +kernel) rfl
theorem cd_yX7_removes : Cond.code yX7_removes cX7_removes 3 none ∈ TBL := tb_4 226 (by decide +kernel) rfl
theorem ml_L_134 : Cond.methodLink RL 134 yX7_pass ∈ TBL := tb_4 227 (by decide +kernel) rfl
theorem im_yX7_pass : Cond.instanceMethod yX7_pass ∈ TBL := tb_4 228 (by decide +kernel) rfl
theorem se_yX7_pass : Cond.selects RX7 yX7_pass yX7_pass ∈ TBL := tb_4 229 (by decide +kernel) rfl
theorem cd_yX7_pass : Cond.code yX7_pass cX7_pass 5 (some .int) ∈ TBL := tb_4 230 (by decide +kernel) rfl
theorem ml_X7_195 : Cond.methodLink RX7 195 yX7_liftsOf ∈ TBL := tb_4 231 (by decide +kernel) rfl
theorem im_yX7_liftsOf : Cond.instanceMethod yX7_liftsOf ∈ TBL := tb_4 233 (by decide +kernel) rfl
theorem cd_yX7_liftsOf : Cond.code yX7_liftsOf cX7_liftsOf 5 (some .int) ∈ TBL := tb_4 234 (by decide +kernel) rfl
theorem ml_X7_189 : Cond.methodLink RX7 189 yX7_isDoable ∈ TBL := tb_4 235 (by decide +kernel) rfl
theorem im_yX7_isDoable : Cond.instanceMethod yX7_isDoable ∈ TBL := tb_4 237 (by decide +kernel) rfl
theorem cd_yX7_isDoable : Cond.code yX7_isDoable cX7_isDoable 3 (some .boolean) ∈ TBL := tb_4 238 (by decide +kernel) rfl
theorem ml_X7_177 : Cond.methodLink RX7 177 yX7_reaches ∈ TBL := tb_4 239 (by decide +kernel) rfl
theorem im_yX7_reaches : Cond.instanceMethod yX7_reaches ∈ TBL := tb_5 1 (by decide +kernel) rfl
theorem cd_yX7_reaches : Cond.code yX7_reaches cX7_reaches 5 (some .boolean) ∈ TBL := tb_5 2 (by decide +kernel) rfl
theorem ml_X7_174 : Cond.methodLink RX7 174 yX7_isWithin ∈ TBL := tb_5 3 (by decide +kernel) rfl
theorem im_yX7_isWithin : Cond.instanceMethod yX7_isWithin ∈ TBL := tb_5 5 (by decide +kernel) rfl
theorem cd_yX7_isWithin : Cond.code yX7_isWithin cX7_isWithin 3 (some .boolean) ∈ TBL := tb_5 6 (by decide +kernel) rfl
theorem ml_X7_180 : Cond.methodLink RX7 180 yX7_isPossible ∈ TBL := tb_5 7 (by decide +kernel) rfl
theorem im_yX7_isPossible : Cond.instanceMethod yX7_isPossible ∈ TBL := tb_5 9 (by decide +kernel) rfl
theorem cd_yX7_isPossible : Cond.code yX7_isPossible cX7_isPossible 3 (some .boolean) ∈ TBL := tb_5 10 (by decide +kernel) rfl
theorem ml_X7_162 : Cond.methodLink RX7 162 yX7_isOnTop ∈ TBL := tb_5 11 (by decide +kernel) rfl
theorem im_yX7_isOnTop : Cond.instanceMethod yX7_isOnTop ∈ TBL := tb_5 13 (by decide +kernel) rfl
theorem cd_yX7_isOnTop : Cond.code yX7_isOnTop cX7_isOnTop 2 (some .boolean) ∈ TBL := tb_5 14 (by decide +kernel) rfl
theorem ml_X7_165 : Cond.methodLink RX7 165 yX7_slotMay ∈ TBL := tb_5 15 (by decide +kernel) rfl
theorem im_yX7_slotMay : Cond.instanceMethod yX7_slotMay ∈ TBL := tb_5 17 (by decide +kernel) rfl
theorem cd_yX7_slotMay : Cond.code yX7_slotMay cX7_slotMay 9 (some .boolean) ∈ TBL := tb_5 18 (by decide +kernel) rfl
theorem ml_X7_127 : Cond.methodLink RX7 127 yX7_isDangerous ∈ TBL := tb_5 19 (by decide +kernel) rfl
theorem im_yX7_isDangerous : Cond.instanceMethod yX7_isDangerous ∈ TBL := tb_5 21 (by decide +kernel) rfl
theorem cd_yX7_isDangerous : Cond.code yX7_isDangerous cX7_isDangerous 2 (some .boolean) ∈ TBL := tb_5 22 (by decide +kernel) rfl
theorem ml_X7_130 : Cond.methodLink RX7 130 yX7_isApart ∈ TBL := tb_5 23 (by decide +kernel) rfl
theorem im_yX7_isApart : Cond.instanceMethod yX7_isApart ∈ TBL := tb_5 25 (by decide +kernel) rfl
theorem cd_yX7_isApart : Cond.code yX7_isApart cX7_isApart 6 (some .boolean) ∈ TBL := tb_5 26 (by decide +kernel) rfl
theorem ml_X7_168 : Cond.methodLink RX7 168 yX7_canTake ∈ TBL := tb_5 27 (by decide +kernel) rfl
theorem im_yX7_canTake : Cond.instanceMethod yX7_canTake ∈ TBL := tb_5 29 (by decide +kernel) rfl
theorem cd_yX7_canTake : Cond.code yX7_canTake cX7_canTake 4 (some .boolean) ∈ TBL := tb_5 30 (by decide +kernel) rfl
theorem ml_X7_171 : Cond.methodLink RX7 171 yX7_canOpen ∈ TBL := tb_5 31 (by decide +kernel) rfl
theorem im_yX7_canOpen : Cond.instanceMethod yX7_canOpen ∈ TBL := tb_5 33 (by decide +kernel) rfl
theorem cd_yX7_canOpen : Cond.code yX7_canOpen cX7_canOpen 2 (some .boolean) ∈ TBL := tb_5 34 (by decide +kernel) rfl
theorem ml_X7_120 : Cond.methodLink RX7 120 yX7_hasOnTop ∈ TBL := tb_5 35 (by decide +kernel) rfl
theorem im_yX7_hasOnTop : Cond.instanceMethod yX7_hasOnTop ∈ TBL := tb_5 37 (by decide +kernel) rfl
theorem cd_yX7_hasOnTop : Cond.code yX7_hasOnTop cX7_hasOnTop 4 (some .boolean) ∈ TBL := tb_5 38 (by decide +kernel) rfl
theorem ml_X7_192 : Cond.methodLink RX7 192 yX7_does ∈ TBL := tb_5 39 (by decide +kernel) rfl
theorem im_yX7_does : Cond.instanceMethod yX7_does ∈ TBL := tb_5 41 (by decide +kernel) rfl
theorem cd_yX7_does : Cond.code yX7_does cX7_does 4 none ∈ TBL := tb_5 42 (by decide +kernel) rfl
theorem ml_X7_183 : Cond.methodLink RX7 183 yX7_comesAboard ∈ TBL := tb_5 43 (by decide +kernel) rfl
theorem im_yX7_comesAboard : Cond.instanceMethod yX7_comesAboard ∈ TBL := tb_5 45 (by decide +kernel) rfl
theorem cd_yX7_comesAboard : Cond.code yX7_comesAboard cX7_comesAboard 3 none ∈ TBL := tb_5 46 (by decide +kernel) rfl
theorem ml_L_138 : Cond.methodLink RL 138 yX7_leave ∈ TBL := tb_5 47 (by decide +kernel) rfl
theorem im_yX7_leave : Cond.instanceMethod yX7_leave ∈ TBL := tb_5 48 (by decide +kernel) rfl
theorem se_yX7_leave : Cond.selects RX7 yX7_leave yX7_leave ∈ TBL := tb_5 49 (by decide +kernel) rfl
theorem cd_yX7_leave : Cond.code yX7_leave cX7_leave 2 (some .int) ∈ TBL := tb_5 50 (by decide +kernel) rfl
theorem ml_X7_198 : Cond.methodLink RX7 198 yX7_barsNow ∈ TBL := tb_5 51 (by decide +kernel) rfl
theorem im_yX7_barsNow : Cond.instanceMethod yX7_barsNow ∈ TBL := tb_5 53 (by decide +kernel) rfl
theorem cd_yX7_barsNow : Cond.code yX7_barsNow cX7_barsNow 5 (some .int) ∈ TBL := tb_5 54 (by decide +kernel) rfl
theorem ml_X7_208 : Cond.methodLink RX7 208 yX7_momentOf ∈ TBL := tb_5 55 (by decide +kernel) rfl
theorem im_yX7_momentOf : Cond.instanceMethod yX7_momentOf ∈ TBL := tb_5 57 (by decide +kernel) rfl
theorem cd_yX7_momentOf : Cond.code yX7_momentOf cX7_momentOf 7 (some .int) ∈ TBL := tb_5 58 (by decide +kernel) rfl
theorem ml_X7_214 : Cond.methodLink RX7 214 yX7_isBeyond ∈ TBL := tb_5 59 (by decide +kernel) rfl
theorem st_yX7_isBeyond : Cond.static yX7_isBeyond ∈ TBL := tb_5 60 (by decide +kernel) rfl
theorem cd_yX7_isBeyond : Cond.code yX7_isBeyond cX7_isBeyond 2 (some .boolean) ∈ TBL := tb_5 61 (by decide +kernel) rfl
theorem ml_L_142 : Cond.methodLink RL 142 yX7_hour ∈ TBL := tb_5 62 (by decide +kernel) rfl
theorem im_yX7_hour : Cond.instanceMethod yX7_hour ∈ TBL := tb_5 63 (by decide +kernel) rfl
theorem se_yX7_hour : Cond.selects RX7 yX7_hour yX7_hour ∈ TBL := tb_5 64 (by decide +kernel) rfl
theorem cd_yX7_hour : Cond.code yX7_hour cX7_hour 1 (some .int) ∈ TBL := tb_5 65 (by decide +kernel) rfl
theorem ml_L_146 : Cond.methodLink RL 146 yX7_port ∈ TBL := tb_5 66 (by decide +kernel) rfl
theorem im_yX7_port : Cond.instanceMethod yX7_port ∈ TBL := tb_5 67 (by decide +kernel) rfl
theorem se_yX7_port : Cond.selects RX7 yX7_port yX7_port ∈ TBL := tb_5 68 (by decide +kernel) rfl
theorem cd_yX7_port : Cond.code yX7_port cX7_port 1 (some .int) ∈ TBL := tb_5 69 (by decide +kernel) rfl
theorem ml_L_150 : Cond.methodLink RL 150 yX7_cost ∈ TBL := tb_5 70 (by decide +kernel) rfl
theorem im_yX7_cost : Cond.instanceMethod yX7_cost ∈ TBL := tb_5 71 (by decide +kernel) rfl
theorem se_yX7_cost : Cond.selects RX7 yX7_cost yX7_cost ∈ TBL := tb_5 72 (by decide +kernel) rfl
theorem cd_yX7_cost : Cond.code yX7_cost cX7_cost 1 (some .int) ∈ TBL := tb_5 73 (by decide +kernel) rfl
theorem ml_L_153 : Cond.methodLink RL 153 yX7_of ∈ TBL := tb_5 74 (by decide +kernel) rfl
theorem im_yX7_of : Cond.instanceMethod yX7_of ∈ TBL := tb_5 75 (by decide +kernel) rfl
theorem se_yX7_of : Cond.selects RX7 yX7_of yX7_of ∈ TBL := tb_5 76 (by decide +kernel) rfl
theorem cd_yX7_of : Cond.code yX7_of cX7_of 3 (some .int) ∈ TBL := tb_5 77 (by decide +kernel) rfl
theorem ml_X7_202 : Cond.methodLink RX7 202 yX7_slotOf ∈ TBL := tb_5 78 (by decide +kernel) rfl
theorem st_yX7_slotOf : Cond.static yX7_slotOf ∈ TBL := tb_5 79 (by decide +kernel) rfl
theorem cd_yX7_slotOf : Cond.code yX7_slotOf cX7_slotOf 1 (some .int) ∈ TBL := tb_5 80 (by decide +kernel) rfl
theorem ml_X7_205 : Cond.methodLink RX7 205 yX7_liesOn ∈ TBL := tb_5 81 (by decide +kernel) rfl
theorem im_yX7_liesOn : Cond.instanceMethod yX7_liesOn ∈ TBL := tb_5 83 (by decide +kernel) rfl
theorem cd_yX7_liesOn : Cond.code yX7_liesOn cX7_liesOn 4 (some .int) ∈ TBL := tb_5 84 (by decide +kernel) rfl
theorem ml_L_156 : Cond.methodLink RL 156 yX7_at ∈ TBL := tb_5 85 (by decide +kernel) rfl
theorem im_yX7_at : Cond.instanceMethod yX7_at ∈ TBL := tb_5 86 (by decide +kernel) rfl
theorem se_yX7_at : Cond.selects RX7 yX7_at yX7_at ∈ TBL := tb_5 87 (by decide +kernel) rfl
theorem cd_yX7_at : Cond.code yX7_at cX7_at 2 (some .int) ∈ TBL := tb_5 88 (by decide +kernel) rfl
theorem ml_L_159 : Cond.methodLink RL 159 yX7_inYard ∈ TBL := tb_5 89 (by decide +kernel) rfl
theorem im_yX7_inYard : Cond.instanceMethod yX7_inYard ∈ TBL := tb_5 90 (by decide +kernel) rfl
theorem se_yX7_inYard : Cond.selects RX7 yX7_inYard yX7_inYard ∈ TBL := tb_5 91 (by decide +kernel) rfl
theorem cd_yX7_inYard : Cond.code yX7_inYard cX7_inYard 3 (some .int) ∈ TBL := tb_5 92 (by decide +kernel) rfl
theorem ml_L_162 : Cond.methodLink RL 162 yX7_hatch ∈ TBL := tb_5 93 (by decide +kernel) rfl
theorem im_yX7_hatch : Cond.instanceMethod yX7_hatch ∈ TBL := tb_5 94 (by decide +kernel) rfl
theorem se_yX7_hatch : Cond.selects RX7 yX7_hatch yX7_hatch ∈ TBL := tb_5 95 (by decide +kernel) rfl
theorem cd_yX7_hatch : Cond.code yX7_hatch cX7_hatch 2 (some .int) ∈ TBL := tb_5 96 (by decide +kernel) rfl
theorem ml_L_165 : Cond.methodLink RL 165 yX7_moment ∈ TBL := tb_5 97 (by decide +kernel) rfl
theorem im_yX7_moment : Cond.instanceMethod yX7_moment ∈ TBL := tb_5 98 (by decide +kernel) rfl
theorem se_yX7_moment : Cond.selects RX7 yX7_moment yX7_moment ∈ TBL := tb_5 99 (by decide +kernel) rfl
theorem cd_yX7_moment : Cond.code yX7_moment cX7_moment 2 (some .int) ∈ TBL := tb_5 100 (by decide +kernel) rfl
theorem ml_L_168 : Cond.methodLink RL 168 yX7_momentAnew ∈ TBL := tb_5 101 (by decide +kernel) rfl
theorem im_yX7_momentAnew : Cond.instanceMethod yX7_momentAnew ∈ TBL := tb_5 102 (by decide +kernel) rfl
theorem se_yX7_momentAnew : Cond.selects RX7 yX7_momentAnew yX7_momentAnew ∈ TBL := tb_5 103 (by decide +kernel) rfl
theorem cd_yX7_momentAnew : Cond.code yX7_momentAnew cX7_momentAnew 2 (some .int) ∈ TBL := tb_5 104 (by decide +kernel) rfl
theorem ml_X7_211 : Cond.methodLink RX7 211 yX7_moment ∈ TBL := tb_5 105 (by decide +kernel) rfl
theorem ml_L_172 : Cond.methodLink RL 172 yX7_bars ∈ TBL := tb_5 106 (by decide +kernel) rfl
theorem im_yX7_bars : Cond.instanceMethod yX7_bars ∈ TBL := tb_5 107 (by decide +kernel) rfl
theorem se_yX7_bars : Cond.selects RX7 yX7_bars yX7_bars ∈ TBL := tb_5 108 (by decide +kernel) rfl
theorem cd_yX7_bars : Cond.code yX7_bars cX7_bars 1 (some .int) ∈ TBL := tb_5 109 (by decide +kernel) rfl
theorem ml_L_175 : Cond.methodLink RL 175 yX7_dig ∈ TBL := tb_5 110 (by decide +kernel) rfl
theorem im_yX7_dig : Cond.instanceMethod yX7_dig ∈ TBL := tb_5 111 (by decide +kernel) rfl
theorem se_yX7_dig : Cond.selects RX7 yX7_dig yX7_dig ∈ TBL := tb_5 112 (by decide +kernel) rfl
theorem cd_yX7_dig : Cond.code yX7_dig cX7_dig 5 (some .int) ∈ TBL := tb_5 113 (by decide +kernel) rfl
theorem ml_L_179 : Cond.methodLink RL 179 yX7_orders ∈ TBL := tb_5 114 (by decide +kernel) rfl
theorem im_yX7_orders : Cond.instanceMethod yX7_orders ∈ TBL := tb_5 115 (by decide +kernel) rfl
theorem se_yX7_orders : Cond.selects RX7 yX7_orders yX7_orders ∈ TBL := tb_5 116 (by decide +kernel) rfl
theorem cd_yX7_orders : Cond.code yX7_orders cX7_orders 1 (some .int) ∈ TBL := tb_5 117 (by decide +kernel) rfl
theorem ml_L_182 : Cond.methodLink RL 182 yX7_can ∈ TBL := tb_5 118 (by decide +kernel) rfl
theorem im_yX7_can : Cond.instanceMethod yX7_can ∈ TBL := tb_5 119 (by decide +kernel) rfl
theorem se_yX7_can : Cond.selects RX7 yX7_can yX7_can ∈ TBL := tb_5 120 (by decide +kernel) rfl
theorem cd_yX7_can : Cond.code yX7_can cX7_can 3 (some .boolean) ∈ TBL := tb_5 121 (by decide +kernel) rfl
theorem ml_L_185 : Cond.methodLink RL 185 yX7_may ∈ TBL := tb_5 122 (by decide +kernel) rfl
theorem im_yX7_may : Cond.instanceMethod yX7_may ∈ TBL := tb_5 123 (by decide +kernel) rfl
theorem se_yX7_may : Cond.selects RX7 yX7_may yX7_may ∈ TBL := tb_5 124 (by decide +kernel) rfl
theorem cd_yX7_may : Cond.code yX7_may cX7_may 3 (some .boolean) ∈ TBL := tb_5 125 (by decide +kernel) rfl
theorem ac_long : Cond.arrayClass .long ∈ TBL := tb_5 126 (by decide +kernel) rfl
theorem se_yX6_momentKept : Cond.selects RX6 yX6_momentKept yX6_momentKept ∈ TBL := tb_s 0 (by decide +kernel) rfl
theorem se_yX6_mayBeStacked : Cond.selects RX6 yX6_mayBeStacked yX6_mayBeStacked ∈ TBL := tb_s 2 (by decide +kernel) rfl
theorem se_yX6_putInYard : Cond.selects RX6 yX6_putInYard yX6_putInYard ∈ TBL := tb_s 3 (by decide +kernel) rfl
theorem se_yX6_isBox : Cond.selects RX6 yX6_isBox yX6_isBox ∈ TBL := tb_s 4 (by decide +kernel) rfl
theorem se_yX6_isAhead : Cond.selects RX6 yX6_isAhead yX6_isAhead ∈ TBL := tb_s 5 (by decide +kernel) rfl
theorem se_yX6_portBehind : Cond.selects RX6 yX6_portBehind yX6_portBehind ∈ TBL := tb_s 6 (by decide +kernel) rfl
theorem se_yX6_isOrder : Cond.selects RX6 yX6_isOrder yX6_isOrder ∈ TBL := tb_s 7 (by decide +kernel) rfl
theorem se_yX6_workAnHour : Cond.selects RX6 yX6_workAnHour yX6_workAnHour ∈ TBL := tb_s 8 (by decide +kernel) rfl
theorem se_yX6_firstFor : Cond.selects RX6 yX6_firstFor yX6_firstFor ∈ TBL := tb_s 9 (by decide +kernel) rfl
theorem se_yX6_canDo : Cond.selects RX6 yX6_canDo yX6_canDo ∈ TBL := tb_s 10 (by decide +kernel) rfl
theorem se_yX6_canLoad : Cond.selects RX6 yX6_canLoad yX6_canLoad ∈ TBL := tb_s 11 (by decide +kernel) rfl
theorem se_yX6_mayBeIn : Cond.selects RX6 yX6_mayBeIn yX6_mayBeIn ∈ TBL := tb_s 12 (by decide +kernel) rfl
theorem se_yX6_isApartIn : Cond.selects RX6 yX6_isApartIn yX6_isApartIn ∈ TBL := tb_s 13 (by decide +kernel) rfl
theorem se_yX6_canTake : Cond.selects RX6 yX6_canTake yX6_canTake ∈ TBL := tb_s 14 (by decide +kernel) rfl
theorem se_yX6_isJammed : Cond.selects RX6 yX6_isJammed yX6_isJammed ∈ TBL := tb_s 15 (by decide +kernel) rfl
theorem se_yX6_lift : Cond.selects RX6 yX6_lift yX6_lift ∈ TBL := tb_s 16 (by decide +kernel) rfl
theorem se_yX6_takeAway : Cond.selects RX6 yX6_takeAway yX6_takeAway ∈ TBL := tb_s 17 (by decide +kernel) rfl
theorem se_yX4_addWeight : Cond.selects RX4 yX4_addWeight yX4_addWeight ∈ TBL := tb_s 18 (by decide +kernel) rfl
theorem se_yX6_putOnShip : Cond.selects RX6 yX6_putOnShip yX6_putOnShip ∈ TBL := tb_s 19 (by decide +kernel) rfl
theorem se_yX6_overdueBoxes : Cond.selects RX6 yX6_overdueBoxes yX6_overdueBoxes ∈ TBL := tb_s 20 (by decide +kernel) rfl
theorem se_yX6_boxesOn : Cond.selects RX6 yX6_boxesOn yX6_boxesOn ∈ TBL := tb_s 21 (by decide +kernel) rfl
theorem se_yX7_stackMay : Cond.selects RX7 yX7_stackMay yX7_stackMay ∈ TBL := tb_s 22 (by decide +kernel) rfl
theorem se_yX7_fits : Cond.selects RX7 yX7_fits yX7_fits ∈ TBL := tb_s 23 (by decide +kernel) rfl
theorem se_yX7_comesTo : Cond.selects RX7 yX7_comesTo yX7_comesTo ∈ TBL := tb_s 24 (by decide +kernel) rfl
theorem se_yX7_isBox : Cond.selects RX7 yX7_isBox yX7_isBox ∈ TBL := tb_s 25 (by decide +kernel) rfl
theorem se_yX7_isHeld : Cond.selects RX7 yX7_isHeld yX7_isHeld ∈ TBL := tb_s 26 (by decide +kernel) rfl
theorem se_yX7_isAhead : Cond.selects RX7 yX7_isAhead yX7_isAhead ∈ TBL := tb_s 27 (by decide +kernel) rfl
theorem se_yX7_nextPort : Cond.selects RX7 yX7_nextPort yX7_nextPort ∈ TBL := tb_s 28 (by decide +kernel) rfl
theorem se_yX7_isOrder : Cond.selects RX7 yX7_isOrder yX7_isOrder ∈ TBL := tb_s 29 (by decide +kernel) rfl
theorem se_yX7_removes : Cond.selects RX7 yX7_removes yX7_removes ∈ TBL := tb_s 30 (by decide +kernel) rfl
theorem se_yX7_liftsOf : Cond.selects RX7 yX7_liftsOf yX7_liftsOf ∈ TBL := tb_s 31 (by decide +kernel) rfl
theorem se_yX7_isDoable : Cond.selects RX7 yX7_isDoable yX7_isDoable ∈ TBL := tb_s 32 (by decide +kernel) rfl
theorem se_yX7_reaches : Cond.selects RX7 yX7_reaches yX7_reaches ∈ TBL := tb_s 33 (by decide +kernel) rfl
theorem se_yX7_isWithin : Cond.selects RX7 yX7_isWithin yX7_isWithin ∈ TBL := tb_s 34 (by decide +kernel) rfl
theorem se_yX7_isPossible : Cond.selects RX7 yX7_isPossible yX7_isPossible ∈ TBL := tb_s 35 (by decide +kernel) rfl
theorem se_yX7_isOnTop : Cond.selects RX7 yX7_isOnTop yX7_isOnTop ∈ TBL := tb_s 36 (by decide +kernel) rfl
theorem se_yX7_slotMay : Cond.selects RX7 yX7_slotMay yX7_slotMay ∈ TBL := tb_s 37 (by decide +kernel) rfl
theorem se_yX7_isDangerous : Cond.selects RX7 yX7_isDangerous yX7_isDangerous ∈ TBL := tb_s 38 (by decide +kernel) rfl
theorem se_yX7_isApart : Cond.selects RX7 yX7_isApart yX7_isApart ∈ TBL := tb_s 39 (by decide +kernel) rfl
theorem se_yX7_canTake : Cond.selects RX7 yX7_canTake yX7_canTake ∈ TBL := tb_s 40 (by decide +kernel) rfl
theorem se_yX7_canOpen : Cond.selects RX7 yX7_canOpen yX7_canOpen ∈ TBL := tb_s 41 (by decide +kernel) rfl
theorem se_yX7_hasOnTop : Cond.selects RX7 yX7_hasOnTop yX7_hasOnTop ∈ TBL := tb_s 42 (by decide +kernel) rfl
theorem se_yX7_does : Cond.selects RX7 yX7_does yX7_does ∈ TBL := tb_s 43 (by decide +kernel) rfl
theorem se_yX7_comesAboard : Cond.selects RX7 yX7_comesAboard yX7_comesAboard ∈ TBL := tb_s 44 (by decide +kernel) rfl
theorem se_yX7_barsNow : Cond.selects RX7 yX7_barsNow yX7_barsNow ∈ TBL := tb_s 45 (by decide +kernel) rfl
theorem se_yX7_momentOf : Cond.selects RX7 yX7_momentOf yX7_momentOf ∈ TBL := tb_s 46 (by decide +kernel) rfl
theorem se_yX7_liesOn : Cond.selects RX7 yX7_liesOn yX7_liesOn ∈ TBL := tb_s 47 (by decide +kernel) rfl
theorem lay_X0 : ∀ w ∈ wsX00, w ∈ TBL := fun w hw => List.mem_filter.mpr ⟨(show ∀ w ∈ wsX00, w ∈ lw_tbl by decide +kernel) w hw, (show ∀ w ∈ wsX00, goodWord w = true by decide +kernel) w hw⟩
theorem lay_X1 : ∀ w ∈ wsX10, w ∈ TBL := fun w hw => List.mem_filter.mpr ⟨(show ∀ w ∈ wsX10, w ∈ lw_tbl by decide +kernel) w hw, (show ∀ w ∈ wsX10, goodWord w = true by decide +kernel) w hw⟩
theorem lay_X2 : ∀ w ∈ wsX20, w ∈ TBL := fun w hw => List.mem_filter.mpr ⟨(show ∀ w ∈ wsX20, w ∈ lw_tbl by decide +kernel) w hw, (show ∀ w ∈ wsX20, goodWord w = true by decide +kernel) w hw⟩
theorem lay_X3 : ∀ w ∈ wsX30, w ∈ TBL := fun w hw => List.mem_filter.mpr ⟨(show ∀ w ∈ wsX30, w ∈ lw_tbl by decide +kernel) w hw, (show ∀ w ∈ wsX30, goodWord w = true by decide +kernel) w hw⟩
theorem lay_X4 : ∀ w ∈ wsX40, w ∈ TBL := fun w hw => List.mem_filter.mpr ⟨(show ∀ w ∈ wsX40, w ∈ lw_tbl by decide +kernel) w hw, (show ∀ w ∈ wsX40, goodWord w = true by decide +kernel) w hw⟩
theorem lay_X5 : ∀ w ∈ wsX50, w ∈ TBL := fun w hw => List.mem_filter.mpr ⟨(show ∀ w ∈ wsX50, w ∈ lw_tbl by decide +kernel) w hw, (show ∀ w ∈ wsX50, goodWord w = true by decide +kernel) w hw⟩
theorem lay_X6 : ∀ w ∈ wsX60, w ∈ TBL := fun w hw => List.mem_filter.mpr ⟨(show ∀ w ∈ wsX60, w ∈ lw_tbl by decide +kernel) w hw, (show ∀ w ∈ wsX60, goodWord w = true by decide +kernel) w hw⟩
theorem lay_X7 : ∀ w ∈ wsX70, w ∈ TBL := fun w hw => List.mem_filter.mpr ⟨(show ∀ w ∈ wsX70, w ∈ lw_tbl by decide +kernel) w hw, (show ∀ w ∈ wsX70, goodWord w = true by decide +kernel) w hw⟩
end
section
/-! THE JUDGEMENT GW: the machine at an instruction, its world, locals and stack as plain data -/
theorem tbl_good {w : Cond} (h : w ∈ TBL) : goodWord w = true := (List.mem_filter.mp h).2
theorem goodIn_T {c0 c1 : Cond} {ws : List Cond} (h1 : c1 ∈ TBL) (hws : ∀ w ∈ ws, w ∈ TBL) : GoodIn (c0 :: TBL) (ws ++ (c1 :: TBL)) := by
  intro w hw
  have hT : w ∈ TBL := by
    rcases List.mem_append.mp hw with h | h
    · exact hws w h
    · rcases List.mem_cons.mp h with h | h
      · rw [h]; exact h1
      · exact h
  exact ⟨List.mem_cons_of_mem _ hT, good_of_word (tbl_good hT)⟩
abbrev classes : List vw_C := [(RX0, TX0, 8), (RX1, TX1, 3), (RX2, TX2, 4), (RX3, TX3, 1), (RX4, TX4, 7), (RX5, TX5, 2), (RX6, TX6, 12), (RX7, TX7, 31)]
abbrev tys (Y : Nat → ClassId) : List (ClassId × FieldType) := [(Y 0, .int), (Y 1, .boolean), (Y 2, .long)]
def KK (D : va_G) (Y : Nat → ClassId) (U : State) : Prop := va_K D classes (tys Y) U ∧ va_Nw (.methodLinkNest RX4 42 yX6_restsOnBox RX6) U ∧ va_Nw (.methodLinkNest RX4 58 yX6_bayOf RX6) U ∧ va_Nw (.methodLinkNest RX4 68 yX6_rowOf RX6) U
theorem KK.warm {D : va_G} {Y : Nat → ClassId} {s U : State} (hW : s.WarmedH U.vm) (h : KK D Y s) : KK D Y U := ⟨va_K.moved hW.alike h.1, va_Nw.warmM hW h.2.1, va_Nw.warmM hW h.2.2.1, va_Nw.warmM hW h.2.2.2⟩
theorem KK.same {D : va_G} {Y : Nat → ClassId} {s U : State} (hv : s.vm = U.vm) (h : KK D Y s) : KK D Y U := ⟨va_K.moved (u := s) (U := U) (by rw [hv]; exact Vm.Alike.refl U.vm) h.1, va_Nw.same rfl hv h.2.1, va_Nw.same rfl hv h.2.2.1, va_Nw.same rfl hv h.2.2.2⟩
/-- what a method's walk stands on -/
def Fx (p : Program) (s : State) (m : MethodId) (args : Array Value) (c : Code) (D : va_G) (Y : Nat → ClassId) (A : Nat → Prop) (cc : ByteArray) (nL : Nat) (own : String) : Prop :=
  p.tables.exec = Jvm.exec ∧ c.code = cc ∧ c.maxLocals = nL ∧ s.vm.findClass own = some m.cls ∧ (∀ w ∈ TBL, w.before args s = true) ∧ KK D Y s ∧ ∀ q, s.heap.size ≤ q → A q
def GW (p : Program) (l : Launch) (e : Env) (R : Room) (s : State) (m : MethodId) (args : Array Value) (below : List Frame) (meth : Method) (c : Code) (D : va_G) (A : Nat → Prop) (nL : Nat) (cells slots : Nat) (Q : State → Prop) (ws : va_W) (pc : Nat) (lv : List (Nat × Value)) (st : List Value) : Prop :=
  ∀ (H : Heap) (locs : List Loc) (ls : Array Slot), va_P D classes ws H → va_D A ws → va_S A s.heap H locs → lv_has ls nL lv → W p l e R s m args below meth c H locs cells slots Q (F0 m pc ls st)
section GWR
variable {p : Program} {l : Launch} {e : Env} {R : Room} {s : State} {m : MethodId} {args : Array Value} {below : List Frame} {meth : Method} {c : Code} {D : va_G} {Y : Nat → ClassId} {A : Nat → Prop} {cc : ByteArray} {nL : Nat} {own : String} {cells slots : Nat} {Q : State → Prop} {ws : va_W} {pc : Nat} {lv : List (Nat × Value)} {st : List Value}
theorem g_iconst (F : Fx p s m args c D Y A cc nL own) {n : Int} {v : Int32} (hd : decode cc pc = .ok (.iconst n, 1)) (hv : Int32.ofInt n = v) (k : GW p l e R s m args below meth c D A nL cells slots Q ws (pc + 1) lv (.int v :: st)) : GW p l e R s m args below meth c D A nL cells slots Q ws pc lv st := fun H locs ls hP hD hS hl => lv_iconst F.1 F.2.1 hd hv (k H locs ls hP hD hS hl)
theorem g_bipush (F : Fx p s m args c D Y A cc nL own) {n : Int} {v : Int32} (hd : decode cc pc = .ok (.bipush n, 2)) (hv : (Int8.ofInt n).toInt32 = v) (k : GW p l e R s m args below meth c D A nL cells slots Q ws (pc + 2) lv (.int v :: st)) : GW p l e R s m args below meth c D A nL cells slots Q ws pc lv st := fun H locs ls hP hD hS hl => lv_bipush F.1 F.2.1 hd hv (k H locs ls hP hD hS hl)
theorem g_sipush (F : Fx p s m args c D Y A cc nL own) {n : Int} {v : Int32} (hd : decode cc pc = .ok (.sipush n, 3)) (hv : (Int16.ofInt n).toInt32 = v) (k : GW p l e R s m args below meth c D A nL cells slots Q ws (pc + 3) lv (.int v :: st)) : GW p l e R s m args below meth c D A nL cells slots Q ws pc lv st := fun H locs ls hP hD hS hl => lv_sipush F.1 F.2.1 hd hv (k H locs ls hP hD hS hl)
theorem g_iload_n (F : Fx p s m args c D Y A cc nL own) {f : Fin 4} {i : Nat} {x : Int32} (hd : decode cc pc = .ok (.iload_n f, 1)) (q : Nat) (hi : (f : Nat) = i) (hk : lv[q]? = some (i, .int x)) (k : GW p l e R s m args below meth c D A nL cells slots Q ws (pc + 1) lv (.int x :: st)) : GW p l e R s m args below meth c D A nL cells slots Q ws pc lv st := fun H locs ls hP hD hS hl => lv_iload_n F.1 F.2.1 hd hi (lv_at hl q hk) (k H locs ls hP hD hS hl)
theorem g_iload (F : Fx p s m args c D Y A cc nL own) {i : Nat} {x : Int32} (hd : decode cc pc = .ok (.iload i, 2)) (q : Nat) (hk : lv[q]? = some (i, .int x)) (k : GW p l e R s m args below meth c D A nL cells slots Q ws (pc + 2) lv (.int x :: st)) : GW p l e R s m args below meth c D A nL cells slots Q ws pc lv st := fun H locs ls hP hD hS hl => lv_iload F.1 F.2.1 hd (lv_at hl q hk) (k H locs ls hP hD hS hl)
theorem g_aload_n (F : Fx p s m args c D Y A cc nL own) {f : Fin 4} {i : Nat} {x : Nat} (hd : decode cc pc = .ok (.aload_n f, 1)) (q : Nat) (hi : (f : Nat) = i) (hk : lv[q]? = some (i, .ref x)) (k : GW p l e R s m args below meth c D A nL cells slots Q ws (pc + 1) lv (.ref x :: st)) : GW p l e R s m args below meth c D A nL cells slots Q ws pc lv st := fun H locs ls hP hD hS hl => lv_aload_n F.1 F.2.1 hd hi (lv_at hl q hk) (k H locs ls hP hD hS hl)
theorem g_aload (F : Fx p s m args c D Y A cc nL own) {i : Nat} {x : Nat} (hd : decode cc pc = .ok (.aload i, 2)) (q : Nat) (hk : lv[q]? = some (i, .ref x)) (k : GW p l e R s m args below meth c D A nL cells slots Q ws (pc + 2) lv (.ref x :: st)) : GW p l e R s m args below meth c D A nL cells slots Q ws pc lv st := fun H locs ls hP hD hS hl => lv_aload F.1 F.2.1 hd (lv_at hl q hk) (k H locs ls hP hD hS hl)
abbrev lvput (i : Nat) (v : Value) (lv : List (Nat × Value)) : List (Nat × Value) := (i, v) :: lv.filter (fun q => !(q.1 == i) && !(q.1 + 1 == i && q.2.category == 2))
theorem g_istore_n (F : Fx p s m args c D Y A cc nL own) {f : Fin 4} {i : Nat} {x : Int32} {lv' : List (Nat × Value)} (hd : decode cc pc = .ok (.istore_n f, 1)) (hi : (f : Nat) = i) (hn : i < nL) (hl' : lvput i (.int x) lv = lv') (k : GW p l e R s m args below meth c D A nL cells slots Q ws (pc + 1) lv' st) : GW p l e R s m args below meth c D A nL cells slots Q ws pc lv (.int x :: st) := fun H locs ls hP hD hS hl => lv_istore_n F.1 F.2.1 hd hi hl hn hl' (fun ls' hl2 => k H locs ls' hP hD hS hl2)
theorem g_istore (F : Fx p s m args c D Y A cc nL own) {i : Nat} {x : Int32} {lv' : List (Nat × Value)} (hd : decode cc pc = .ok (.istore i, 2)) (hn : i < nL) (hl' : lvput i (.int x) lv = lv') (k : GW p l e R s m args below meth c D A nL cells slots Q ws (pc + 2) lv' st) : GW p l e R s m args below meth c D A nL cells slots Q ws pc lv (.int x :: st) := fun H locs ls hP hD hS hl => lv_istore F.1 F.2.1 hd hl hn hl' (fun ls' hl2 => k H locs ls' hP hD hS hl2)
theorem g_astore_n (F : Fx p s m args c D Y A cc nL own) {f : Fin 4} {i : Nat} {x : Nat} {lv' : List (Nat × Value)} (hd : decode cc pc = .ok (.astore_n f, 1)) (hi : (f : Nat) = i) (hn : i < nL) (hl' : lvput i (.ref x) lv = lv') (k : GW p l e R s m args below meth c D A nL cells slots Q ws (pc + 1) lv' st) : GW p l e R s m args below meth c D A nL cells slots Q ws pc lv (.ref x :: st) := fun H locs ls hP hD hS hl => lv_astore_n F.1 F.2.1 hd hi hl hn hl' (fun ls' hl2 => k H locs ls' hP hD hS hl2)
theorem g_astore (F : Fx p s m args c D Y A cc nL own) {i : Nat} {x : Nat} {lv' : List (Nat × Value)} (hd : decode cc pc = .ok (.astore i, 2)) (hn : i < nL) (hl' : lvput i (.ref x) lv = lv') (k : GW p l e R s m args below meth c D A nL cells slots Q ws (pc + 2) lv' st) : GW p l e R s m args below meth c D A nL cells slots Q ws pc lv (.ref x :: st) := fun H locs ls hP hD hS hl => lv_astore F.1 F.2.1 hd hl hn hl' (fun ls' hl2 => k H locs ls' hP hD hS hl2)
theorem g_iinc (F : Fx p s m args c D Y A cc nL own) {i : Nat} {n : Int} {x v : Int32} {lv' : List (Nat × Value)} (hd : decode cc pc = .ok (.iinc i n, 3)) (q : Nat) (hk : lv[q]? = some (i, .int x)) (hv : x + Int32.ofInt n = v) (hn : i < nL) (hl' : lvput i (.int v) lv = lv') (k : GW p l e R s m args below meth c D A nL cells slots Q ws (pc + 3) lv' st) : GW p l e R s m args below meth c D A nL cells slots Q ws pc lv st := fun H locs ls hP hD hS hl => lv_iinc (k := q) F.1 F.2.1 hd hl hk hv hn hl' (fun ls' hl2 => k H locs ls' hP hD hS hl2)
theorem g_iadd (F : Fx p s m args c D Y A cc nL own) {x y : Int32} (hd : decode cc pc = .ok (.iadd, 1)) (k : GW p l e R s m args below meth c D A nL cells slots Q ws (pc + 1) lv (.int (x + y) :: st)) : GW p l e R s m args below meth c D A nL cells slots Q ws pc lv (.int y :: .int x :: st) := fun H locs ls hP hD hS hl => lv_iadd F.1 F.2.1 hd (k H locs ls hP hD hS hl)
theorem g_isub (F : Fx p s m args c D Y A cc nL own) {x y : Int32} (hd : decode cc pc = .ok (.isub, 1)) (k : GW p l e R s m args below meth c D A nL cells slots Q ws (pc + 1) lv (.int (x - y) :: st)) : GW p l e R s m args below meth c D A nL cells slots Q ws pc lv (.int y :: .int x :: st) := fun H locs ls hP hD hS hl => lv_isub F.1 F.2.1 hd (k H locs ls hP hD hS hl)
theorem g_imul (F : Fx p s m args c D Y A cc nL own) {x y : Int32} (hd : decode cc pc = .ok (.imul, 1)) (k : GW p l e R s m args below meth c D A nL cells slots Q ws (pc + 1) lv (.int (x * y) :: st)) : GW p l e R s m args below meth c D A nL cells slots Q ws pc lv (.int y :: .int x :: st) := fun H locs ls hP hD hS hl => lv_imul F.1 F.2.1 hd (k H locs ls hP hD hS hl)
theorem g_iand (F : Fx p s m args c D Y A cc nL own) {x y : Int32} (hd : decode cc pc = .ok (.iand, 1)) (k : GW p l e R s m args below meth c D A nL cells slots Q ws (pc + 1) lv (.int (x &&& y) :: st)) : GW p l e R s m args below meth c D A nL cells slots Q ws pc lv (.int y :: .int x :: st) := fun H locs ls hP hD hS hl => lv_iand F.1 F.2.1 hd (k H locs ls hP hD hS hl)
theorem g_ior (F : Fx p s m args c D Y A cc nL own) {x y : Int32} (hd : decode cc pc = .ok (.ior, 1)) (k : GW p l e R s m args below meth c D A nL cells slots Q ws (pc + 1) lv (.int (x ||| y) :: st)) : GW p l e R s m args below meth c D A nL cells slots Q ws pc lv (.int y :: .int x :: st) := fun H locs ls hP hD hS hl => lv_ior F.1 F.2.1 hd (k H locs ls hP hD hS hl)
theorem g_ixor (F : Fx p s m args c D Y A cc nL own) {x y : Int32} (hd : decode cc pc = .ok (.ixor, 1)) (k : GW p l e R s m args below meth c D A nL cells slots Q ws (pc + 1) lv (.int (x ^^^ y) :: st)) : GW p l e R s m args below meth c D A nL cells slots Q ws pc lv (.int y :: .int x :: st) := fun H locs ls hP hD hS hl => lv_ixor F.1 F.2.1 hd (k H locs ls hP hD hS hl)
theorem g_ishl (F : Fx p s m args c D Y A cc nL own) {x y : Int32} (hd : decode cc pc = .ok (.ishl, 1)) (k : GW p l e R s m args below meth c D A nL cells slots Q ws (pc + 1) lv (.int (x <<< (y &&& 31)) :: st)) : GW p l e R s m args below meth c D A nL cells slots Q ws pc lv (.int y :: .int x :: st) := fun H locs ls hP hD hS hl => lv_ishl F.1 F.2.1 hd (k H locs ls hP hD hS hl)
theorem g_idiv (F : Fx p s m args c D Y A cc nL own) {x y : Int32} (hd : decode cc pc = .ok (.idiv, 1)) (h0 : ¬ y = 0) (k : GW p l e R s m args below meth c D A nL cells slots Q ws (pc + 1) lv (.int (x / y) :: st)) : GW p l e R s m args below meth c D A nL cells slots Q ws pc lv (.int y :: .int x :: st) := fun H locs ls hP hD hS hl => lv_idiv F.1 F.2.1 hd h0 (k H locs ls hP hD hS hl)
theorem g_irem (F : Fx p s m args c D Y A cc nL own) {x y : Int32} (hd : decode cc pc = .ok (.irem, 1)) (h0 : ¬ y = 0) (k : GW p l e R s m args below meth c D A nL cells slots Q ws (pc + 1) lv (.int (x - x / y * y) :: st)) : GW p l e R s m args below meth c D A nL cells slots Q ws pc lv (.int y :: .int x :: st) := fun H locs ls hP hD hS hl => lv_irem F.1 F.2.1 hd h0 (k H locs ls hP hD hS hl)
theorem g_ineg (F : Fx p s m args c D Y A cc nL own) {x : Int32} (hd : decode cc pc = .ok (.ineg, 1)) (k : GW p l e R s m args below meth c D A nL cells slots Q ws (pc + 1) lv (.int (-x) :: st)) : GW p l e R s m args below meth c D A nL cells slots Q ws pc lv (.int x :: st) := fun H locs ls hP hD hS hl => lv_ineg F.1 F.2.1 hd (k H locs ls hP hD hS hl)
theorem g_i2l (F : Fx p s m args c D Y A cc nL own) {x : Int32} {v : Int64} (hd : decode cc pc = .ok (.i2l, 1)) (hv : x.toInt64 = v) (k : GW p l e R s m args below meth c D A nL cells slots Q ws (pc + 1) lv (.long v :: st)) : GW p l e R s m args below meth c D A nL cells slots Q ws pc lv (.int x :: st) := fun H locs ls hP hD hS hl => lv_i2l F.1 F.2.1 hd hv (k H locs ls hP hD hS hl)
theorem g_dup (F : Fx p s m args c D Y A cc nL own) {va : Value} (hd : decode cc pc = .ok (.dup, 1)) (hv : va.category = 1) (k : GW p l e R s m args below meth c D A nL cells slots Q ws (pc + 1) lv (va :: va :: st)) : GW p l e R s m args below meth c D A nL cells slots Q ws pc lv (va :: st) := fun H locs ls hP hD hS hl => lv_dup F.1 F.2.1 hd hv (k H locs ls hP hD hS hl)
theorem g_pop (F : Fx p s m args c D Y A cc nL own) {va : Value} (hd : decode cc pc = .ok (.pop, 1)) (hv : va.category = 1) (k : GW p l e R s m args below meth c D A nL cells slots Q ws (pc + 1) lv st) : GW p l e R s m args below meth c D A nL cells slots Q ws pc lv (va :: st) := fun H locs ls hP hD hS hl => lv_pop F.1 F.2.1 hd hv (k H locs ls hP hD hS hl)
theorem g_dup2 (F : Fx p s m args c D Y A cc nL own) {va vb : Value} (hd : decode cc pc = .ok (.dup2, 1)) (hv : va.category = 1) (hvb : vb.category = 1) (k : GW p l e R s m args below meth c D A nL cells slots Q ws (pc + 1) lv (va :: vb :: va :: vb :: st)) : GW p l e R s m args below meth c D A nL cells slots Q ws pc lv (va :: vb :: st) := fun H locs ls hP hD hS hl => lv_dup2_11 F.1 F.2.1 hd hv hvb (k H locs ls hP hD hS hl)
theorem g_dup_x1 (F : Fx p s m args c D Y A cc nL own) {va vb : Value} (hd : decode cc pc = .ok (.dup_x1, 1)) (hv : va.category = 1) (hvb : vb.category = 1) (k : GW p l e R s m args below meth c D A nL cells slots Q ws (pc + 1) lv (va :: vb :: va :: st)) : GW p l e R s m args below meth c D A nL cells slots Q ws pc lv (va :: vb :: st) := fun H locs ls hP hD hS hl => lv_dup_x1 F.1 F.2.1 hd hv hvb (k H locs ls hP hD hS hl)
theorem g_goto (F : Fx p s m args c D Y A cc nL own) {off : Int} {tgt : Nat} (hd : decode cc pc = .ok (.goto off, 3)) (ht : (pc : Int) + off = (tgt : Int)) (k : GW p l e R s m args below meth c D A nL cells slots Q ws tgt lv st) : GW p l e R s m args below meth c D A nL cells slots Q ws pc lv st := fun H locs ls hP hD hS hl => lv_goto F.1 F.2.1 hd ht (k H locs ls hP hD hS hl)
theorem g_if_eq (F : Fx p s m args c D Y A cc nL own) {x : Int32} {off : Int} {tgt : Nat} (hd : decode cc pc = .ok (.ifCond .eq off, 3)) (ht : (pc : Int) + off = (tgt : Int)) (kt : x = 0 → GW p l e R s m args below meth c D A nL cells slots Q ws tgt lv st) (kf : ¬ x = 0 → GW p l e R s m args below meth c D A nL cells slots Q ws (pc + 3) lv st) : GW p l e R s m args below meth c D A nL cells slots Q ws pc lv (.int x :: st) := fun H locs ls hP hD hS hl => lv_if_eq F.1 F.2.1 hd ht (fun h => kt h H locs ls hP hD hS hl) (fun h => kf h H locs ls hP hD hS hl)
theorem g_icmp_eq (F : Fx p s m args c D Y A cc nL own) {x y : Int32} {off : Int} {tgt : Nat} (hd : decode cc pc = .ok (.if_icmp .eq off, 3)) (ht : (pc : Int) + off = (tgt : Int)) (kt : x = y → GW p l e R s m args below meth c D A nL cells slots Q ws tgt lv st) (kf : ¬ x = y → GW p l e R s m args below meth c D A nL cells slots Q ws (pc + 3) lv st) : GW p l e R s m args below meth c D A nL cells slots Q ws pc lv (.int y :: .int x :: st) := fun H locs ls hP hD hS hl => lv_icmp_eq F.1 F.2.1 hd ht (fun h => kt h H locs ls hP hD hS hl) (fun h => kf h H locs ls hP hD hS hl)
theorem g_if_ne (F : Fx p s m args c D Y A cc nL own) {x : Int32} {off : Int} {tgt : Nat} (hd : decode cc pc = .ok (.ifCond .ne off, 3)) (ht : (pc : Int) + off = (tgt : Int)) (kt : ¬ x = 0 → GW p l e R s m args below meth c D A nL cells slots Q ws tgt lv st) (kf : x = 0 → GW p l e R s m args below meth c D A nL cells slots Q ws (pc + 3) lv st) : GW p l e R s m args below meth c D A nL cells slots Q ws pc lv (.int x :: st) := fun H locs ls hP hD hS hl => lv_if_ne F.1 F.2.1 hd ht (fun h => kt h H locs ls hP hD hS hl) (fun h => kf h H locs ls hP hD hS hl)
theorem g_icmp_ne (F : Fx p s m args c D Y A cc nL own) {x y : Int32} {off : Int} {tgt : Nat} (hd : decode cc pc = .ok (.if_icmp .ne off, 3)) (ht : (pc : Int) + off = (tgt : Int)) (kt : ¬ x = y → GW p l e R s m args below meth c D A nL cells slots Q ws tgt lv st) (kf : x = y → GW p l e R s m args below meth c D A nL cells slots Q ws (pc + 3) lv st) : GW p l e R s m args below meth c D A nL cells slots Q ws pc lv (.int y :: .int x :: st) := fun H locs ls hP hD hS hl => lv_icmp_ne F.1 F.2.1 hd ht (fun h => kt h H locs ls hP hD hS hl) (fun h => kf h H locs ls hP hD hS hl)
theorem g_if_lt (F : Fx p s m args c D Y A cc nL own) {x : Int32} {off : Int} {tgt : Nat} (hd : decode cc pc = .ok (.ifCond .lt off, 3)) (ht : (pc : Int) + off = (tgt : Int)) (kt : x < 0 → GW p l e R s m args below meth c D A nL cells slots Q ws tgt lv st) (kf : ¬ x < 0 → GW p l e R s m args below meth c D A nL cells slots Q ws (pc + 3) lv st) : GW p l e R s m args below meth c D A nL cells slots Q ws pc lv (.int x :: st) := fun H locs ls hP hD hS hl => lv_if_lt F.1 F.2.1 hd ht (fun h => kt h H locs ls hP hD hS hl) (fun h => kf h H locs ls hP hD hS hl)
theorem g_icmp_lt (F : Fx p s m args c D Y A cc nL own) {x y : Int32} {off : Int} {tgt : Nat} (hd : decode cc pc = .ok (.if_icmp .lt off, 3)) (ht : (pc : Int) + off = (tgt : Int)) (kt : x < y → GW p l e R s m args below meth c D A nL cells slots Q ws tgt lv st) (kf : ¬ x < y → GW p l e R s m args below meth c D A nL cells slots Q ws (pc + 3) lv st) : GW p l e R s m args below meth c D A nL cells slots Q ws pc lv (.int y :: .int x :: st) := fun H locs ls hP hD hS hl => lv_icmp_lt F.1 F.2.1 hd ht (fun h => kt h H locs ls hP hD hS hl) (fun h => kf h H locs ls hP hD hS hl)
theorem g_if_ge (F : Fx p s m args c D Y A cc nL own) {x : Int32} {off : Int} {tgt : Nat} (hd : decode cc pc = .ok (.ifCond .ge off, 3)) (ht : (pc : Int) + off = (tgt : Int)) (kt : 0 ≤ x → GW p l e R s m args below meth c D A nL cells slots Q ws tgt lv st) (kf : ¬ 0 ≤ x → GW p l e R s m args below meth c D A nL cells slots Q ws (pc + 3) lv st) : GW p l e R s m args below meth c D A nL cells slots Q ws pc lv (.int x :: st) := fun H locs ls hP hD hS hl => lv_if_ge F.1 F.2.1 hd ht (fun h => kt h H locs ls hP hD hS hl) (fun h => kf h H locs ls hP hD hS hl)
theorem g_icmp_ge (F : Fx p s m args c D Y A cc nL own) {x y : Int32} {off : Int} {tgt : Nat} (hd : decode cc pc = .ok (.if_icmp .ge off, 3)) (ht : (pc : Int) + off = (tgt : Int)) (kt : y ≤ x → GW p l e R s m args below meth c D A nL cells slots Q ws tgt lv st) (kf : ¬ y ≤ x → GW p l e R s m args below meth c D A nL cells slots Q ws (pc + 3) lv st) : GW p l e R s m args below meth c D A nL cells slots Q ws pc lv (.int y :: .int x :: st) := fun H locs ls hP hD hS hl => lv_icmp_ge F.1 F.2.1 hd ht (fun h => kt h H locs ls hP hD hS hl) (fun h => kf h H locs ls hP hD hS hl)
theorem g_if_gt (F : Fx p s m args c D Y A cc nL own) {x : Int32} {off : Int} {tgt : Nat} (hd : decode cc pc = .ok (.ifCond .gt off, 3)) (ht : (pc : Int) + off = (tgt : Int)) (kt : 0 < x → GW p l e R s m args below meth c D A nL cells slots Q ws tgt lv st) (kf : ¬ 0 < x → GW p l e R s m args below meth c D A nL cells slots Q ws (pc + 3) lv st) : GW p l e R s m args below meth c D A nL cells slots Q ws pc lv (.int x :: st) := fun H locs ls hP hD hS hl => lv_if_gt F.1 F.2.1 hd ht (fun h => kt h H locs ls hP hD hS hl) (fun h => kf h H locs ls hP hD hS hl)
theorem g_icmp_gt (F : Fx p s m args c D Y A cc nL own) {x y : Int32} {off : Int} {tgt : Nat} (hd : decode cc pc = .ok (.if_icmp .gt off, 3)) (ht : (pc : Int) + off = (tgt : Int)) (kt : y < x → GW p l e R s m args below meth c D A nL cells slots Q ws tgt lv st) (kf : ¬ y < x → GW p l e R s m args below meth c D A nL cells slots Q ws (pc + 3) lv st) : GW p l e R s m args below meth c D A nL cells slots Q ws pc lv (.int y :: .int x :: st) := fun H locs ls hP hD hS hl => lv_icmp_gt F.1 F.2.1 hd ht (fun h => kt h H locs ls hP hD hS hl) (fun h => kf h H locs ls hP hD hS hl)
theorem g_if_le (F : Fx p s m args c D Y A cc nL own) {x : Int32} {off : Int} {tgt : Nat} (hd : decode cc pc = .ok (.ifCond .le off, 3)) (ht : (pc : Int) + off = (tgt : Int)) (kt : x ≤ 0 → GW p l e R s m args below meth c D A nL cells slots Q ws tgt lv st) (kf : ¬ x ≤ 0 → GW p l e R s m args below meth c D A nL cells slots Q ws (pc + 3) lv st) : GW p l e R s m args below meth c D A nL cells slots Q ws pc lv (.int x :: st) := fun H locs ls hP hD hS hl => lv_if_le F.1 F.2.1 hd ht (fun h => kt h H locs ls hP hD hS hl) (fun h => kf h H locs ls hP hD hS hl)
theorem g_icmp_le (F : Fx p s m args c D Y A cc nL own) {x y : Int32} {off : Int} {tgt : Nat} (hd : decode cc pc = .ok (.if_icmp .le off, 3)) (ht : (pc : Int) + off = (tgt : Int)) (kt : x ≤ y → GW p l e R s m args below meth c D A nL cells slots Q ws tgt lv st) (kf : ¬ x ≤ y → GW p l e R s m args below meth c D A nL cells slots Q ws (pc + 3) lv st) : GW p l e R s m args below meth c D A nL cells slots Q ws pc lv (.int y :: .int x :: st) := fun H locs ls hP hD hS hl => lv_icmp_le F.1 F.2.1 hd ht (fun h => kt h H locs ls hP hD hS hl) (fun h => kf h H locs ls hP hD hS hl)
theorem g_tabIn (F : Fx p s m args c D Y A cc nL own) {dflt lo hi : Int} {offs : Array Int} {len : Nat} {x : Int32} {off : Int} {tgt : Nat} (hd : decode cc pc = .ok (.tableswitch dflt lo hi offs, len)) (h1 : ¬ x.toInt < lo) (h2 : ¬ hi < x.toInt) (ho : offs[(x.toInt - lo).toNat]? = some off) (ht : (pc : Int) + off = (tgt : Int)) (k : GW p l e R s m args below meth c D A nL cells slots Q ws tgt lv st) : GW p l e R s m args below meth c D A nL cells slots Q ws pc lv (.int x :: st) := fun H locs ls hP hD hS hl => lv_tableIn F.1 F.2.1 hd h1 h2 ho ht (k H locs ls hP hD hS hl)
theorem g_tabOut (F : Fx p s m args c D Y A cc nL own) {dflt lo hi : Int} {offs : Array Int} {len : Nat} {x : Int32} {tgt : Nat} (hd : decode cc pc = .ok (.tableswitch dflt lo hi offs, len)) (h : x.toInt < lo ∨ hi < x.toInt) (ht : (pc : Int) + dflt = (tgt : Int)) (k : GW p l e R s m args below meth c D A nL cells slots Q ws tgt lv st) : GW p l e R s m args below meth c D A nL cells slots Q ws pc lv (.int x :: st) := fun H locs ls hP hD hS hl => lv_tableOut F.1 F.2.1 hd h ht (k H locs ls hP hD hS hl)
/-- fields of objects of the world -/
theorem g_get (F : Fx p s m args c D Y A cc nL own) {ref C : String} {T : u_T} {N ci index a : Nat} (hin : ∀ w ∈ u_ws C T N, w ∈ TBL) (q0 : Nat) {fs : List Value} (he : ws[q0]? = some (a, .inr (ci, fs))) (hc : classes[ci]? = some (C, T, N)) (k : Nat) (hk : k < N) (hlink : Cond.fieldLink own index ref (T k).2.1 (T k).2.2.1 ∈ TBL) (hsame : (T k).1 = ref) {v : Value} (hv : fs[k]? = some v) (hd : decode cc pc = .ok (.getfield index, 3)) (kk : GW p l e R s m args below meth c D A nL cells slots Q ws (pc + 3) lv (v :: st)) : GW p l e R s m args below meth c D A nL cells slots Q ws pc lv (.ref a :: st) := fun H locs ls hP hD hS hl => va_get F.1 F.2.1 F.2.2.2.2.1 hin F.2.2.2.1 F.2.2.2.2.2.1.1 hP q0 he hc k hk (F.2.2.2.2.1 _ hlink) (fun _ h9 => by rw [← hsame]; exact h9) hv hd (kk H locs ls hP hD hS hl)
theorem g_put (F : Fx p s m args c D Y A cc nL own) {ref C : String} {T : u_T} {N ci index a : Nat} (hin : ∀ w ∈ u_ws C T N, w ∈ TBL) (ty0 : Nat → FieldType) (hty : ∀ k, k < N → parseFieldDescriptor (T k).2.2.1 = some (ty0 k)) (hnm : ∀ a, a < N → ∀ b, b < N → a ≠ b → (T a).2.1 ≠ (T b).2.1) (q0 : Nat) {fs : List Value} (he : ws[q0]? = some (a, .inr (ci, fs))) (hc : classes[ci]? = some (C, T, N)) (k : Nat) (hk : k < N) (hlink : Cond.fieldLink own index ref (T k).2.1 (T k).2.2.1 ∈ TBL) (hsame : (T k).1 = ref) (hfin : (T k).2.2.2 = false) {ty : FieldType} {v : Value} (hde : parseFieldDescriptor (T k).2.2.1 = some ty) (hn : narrow ty v = v) (hfit : fits ty v = true) (hl9 : k < fs.length) (hd : decode cc pc = .ok (.putfield index, 3)) {ws' : va_W} (hw : ws.set q0 (a, .inr (ci, fs.set k v)) = ws') (kk : GW p l e R s m args below meth c D A nL cells slots Q ws' (pc + 3) lv st) : GW p l e R s m args below meth c D A nL cells slots Q ws pc lv (v :: .ref a :: st) := fun H locs ls hP hD hS hl => va_put F.1 F.2.1 F.2.2.2.2.1 hin ty0 hty hnm F.2.2.2.1 F.2.2.2.2.2.1.1 hP hD hS q0 he hc k hk (F.2.2.2.2.1 _ hlink) (fun _ h9 => by rw [← hsame]; exact h9) hfin hde hn hfit hl9 hd (fun H1 locs1 hP1 hD1 hS1 => kk H1 locs1 ls (hw ▸ hP1) (hw ▸ hD1) hS1 hl)
theorem g_iald (F : Fx p s m args c D Y A cc nL own) {a : Nat} (q0 : Nat) {n : Nat} {f : Nat → Int32} (ha : ws[q0]? = some (a, .inl (Y 0, n, .inl f))) {i : Int32} (hin : vp_in i n) (hd : decode cc pc = .ok (.iaload, 1)) (kk : GW p l e R s m args below meth c D A nL cells slots Q ws (pc + 1) lv (.int (f i.toNatClampNeg) :: st)) : GW p l e R s m args below meth c D A nL cells slots Q ws pc lv (.int i :: .ref a :: st) := fun H locs ls hP hD hS hl => va_iald F.1 F.2.1 F.2.2.2.2.2.1.1 hP q0 0 ha rfl hin hd (kk H locs ls hP hD hS hl)
theorem g_zald (F : Fx p s m args c D Y A cc nL own) {a : Nat} (q0 : Nat) {n : Nat} {f : Nat → Int32} (ha : ws[q0]? = some (a, .inl (Y 1, n, .inl f))) {i : Int32} (hin : vp_in i n) (hd : decode cc pc = .ok (.baload, 1)) (kk : GW p l e R s m args below meth c D A nL cells slots Q ws (pc + 1) lv (.int (f i.toNatClampNeg) :: st)) : GW p l e R s m args below meth c D A nL cells slots Q ws pc lv (.int i :: .ref a :: st) := fun H locs ls hP hD hS hl => va_zald F.1 F.2.1 F.2.2.2.2.2.1.1 hP q0 1 ha rfl hin hd (kk H locs ls hP hD hS hl)
theorem g_iast (F : Fx p s m args c D Y A cc nL own) {a : Nat} (q0 : Nat) {n : Nat} {f : Nat → Int32} (ha : ws[q0]? = some (a, .inl (Y 0, n, .inl f))) {i x : Int32} (hin : vp_in i n) (hd : decode cc pc = .ok (.iastore, 1)) {ws' : va_W} (hw : ws.set q0 (a, .inl (Y 0, n, .inl (upd f i.toNatClampNeg x))) = ws') (kk : GW p l e R s m args below meth c D A nL cells slots Q ws' (pc + 1) lv st) : GW p l e R s m args below meth c D A nL cells slots Q ws pc lv (.int x :: .int i :: .ref a :: st) := fun H locs ls hP hD hS hl => va_iast F.1 F.2.1 F.2.2.2.2.2.1.1 hP hD hS q0 0 ha rfl hin hd (fun H1 locs1 hP1 hD1 hS1 => kk H1 locs1 ls (hw ▸ hP1) (hw ▸ hD1) hS1 hl)
theorem g_zast (F : Fx p s m args c D Y A cc nL own) {a : Nat} (q0 : Nat) {n : Nat} {f : Nat → Int32} (ha : ws[q0]? = some (a, .inl (Y 1, n, .inl f))) {i x : Int32} (hin : vp_in i n) (hd : decode cc pc = .ok (.bastore, 1)) {ws' : va_W} (hw : ws.set q0 (a, .inl (Y 1, n, .inl (upd f i.toNatClampNeg (vp_nar .boolean x)))) = ws') (kk : GW p l e R s m args below meth c D A nL cells slots Q ws' (pc + 1) lv st) : GW p l e R s m args below meth c D A nL cells slots Q ws pc lv (.int x :: .int i :: .ref a :: st) := fun H locs ls hP hD hS hl => va_zast F.1 F.2.1 F.2.2.2.2.2.1.1 hP hD hS q0 1 ha rfl hin hd (fun H1 locs1 hP1 hD1 hS1 => kk H1 locs1 ls (hw ▸ hP1) (hw ▸ hD1) hS1 hl)
theorem g_alen (F : Fx p s m args c D Y A cc nL own) {a : Nat} (q0 : Nat) {x : vp_A} (ha : ws[q0]? = some (a, .inl (Y 0, x))) {v : Int32} (hv : Int32.ofNat x.1 = v) (hd : decode cc pc = .ok (.arraylength, 1)) (kk : GW p l e R s m args below meth c D A nL cells slots Q ws (pc + 1) lv (.int v :: st)) : GW p l e R s m args below meth c D A nL cells slots Q ws pc lv (.ref a :: st) := fun H locs ls hP hD hS hl => va_alen F.1 F.2.1 F.2.2.2.2.2.1.1 hP q0 0 ha (ty := .int) rfl hv hd (kk H locs ls hP hD hS hl)
theorem g_max (F : Fx p s m args c D Y A cc nL own) {index : Nat} (hlink : Cond.methodLink own index Lib.Math.max.name ∈ TBL) (hfr : 1 ≤ R.frames) (hlo : (st.map fun v => v.category).sum + 13 ≤ R.locals) (hc9 : cells ≤ R.cells) (hs9 : slots ≤ R.slots) {x y : Int32} (hd : decode cc pc = .ok (.invokestatic index, 3)) (kk : GW p l e R s m args below meth c D A nL cells slots Q ws (pc + 3) lv (.int (if x < y then y else x) :: st)) : GW p l e R s m args below meth c D A nL cells slots Q ws pc lv (.int y :: .int x :: st) := fun H locs ls hP hD hS hl => va_mmax F.1 F.2.1 (F.2.2.1.trans hl.1.symm) F.2.2.2.1 (F.2.2.2.2.1 _ hlink) (F.2.2.2.2.1 _ st_Math_max) (F.2.2.2.2.1 _ in_J9) (F.2.2.2.2.1 _ cd_Math_max) hfr hlo hc9 hs9 hd (kk H locs ls hP hD hS hl)
theorem g_abs (F : Fx p s m args c D Y A cc nL own) {index : Nat} (hlink : Cond.methodLink own index Lib.Math.abs.name ∈ TBL) (hfr : 1 ≤ R.frames) (hlo : (st.map fun v => v.category).sum + 13 ≤ R.locals) (hc9 : cells ≤ R.cells) (hs9 : slots ≤ R.slots) {x : Int32} (hd : decode cc pc = .ok (.invokestatic index, 3)) (kk : GW p l e R s m args below meth c D A nL cells slots Q ws (pc + 3) lv (.int (if 0 ≤ x then x else 0 - x) :: st)) : GW p l e R s m args below meth c D A nL cells slots Q ws pc lv (.int x :: st) := fun H locs ls hP hD hS hl => va_mabs F.1 F.2.1 (F.2.2.1.trans hl.1.symm) F.2.2.2.1 (F.2.2.2.2.1 _ hlink) (F.2.2.2.2.1 _ st_Math_abs) (F.2.2.2.2.1 _ in_J9) (F.2.2.2.2.1 _ cd_Math_abs) hfr hlo hc9 hs9 hd (kk H locs ls hP hD hS hl)
/-- fewer listed locals -/
theorem g_sub {lv' : List (Nat × Value)} (ks : List Nat) (h : lv_pick lv ks = lv') (k : GW p l e R s m args below meth c D A nL cells slots Q ws pc lv' st) : GW p l e R s m args below meth c D A nL cells slots Q ws pc lv st := fun H locs ls hP hD hS hl => k H locs ls hP hD hS (lv_sub hl ks h)
/-- a method's ends -/
def QI (D : va_G) (w1 : va_W) (r : Int32) (A : Nat → Prop) : Array Value → State → Outcome → State → Prop := va_Qi (fun (r' : Int32) (_ : Unit) => r' = r) (fun _ t => va_P D classes w1 t.heap ∧ va_D A w1) A
def QV (D : va_G) (w1 : va_W) (A : Nat → Prop) : Array Value → State → Outcome → State → Prop := va_Qv (fun (_ : Unit) => True) (fun _ t => va_P D classes w1 t.heap ∧ va_D A w1) A
theorem g_iret (F : Fx p s m args c D Y A cc nL own) {v : Int32} {ty : FieldType} (hr : meth.sig.returnType = some ty) (hn : narrow ty (.int v) = .int v) (hlocks : meth.locks = false) (hd : decode cc pc = .ok (.ireturn, 1)) : GW p l e R s m args below meth c D A nL cells slots (MQ below (QI D ws v A) args s cells slots A) ws pc lv [.int v] := fun H locs ls hP hD hS hl => W.zret F.1 F.2.1 hr hn (fun t ht _ => ⟨⟨v, (), rfl, rfl, by rw [ht]; exact hP, hD⟩, hS.F ht⟩) hS.2.2 hd hlocks
theorem g_vret (F : Fx p s m args c D Y A cc nL own) (hr : meth.sig.returnType = none) (hlocks : meth.locks = false) (hd : decode cc pc = .ok (.return_, 1)) : GW p l e R s m args below meth c D A nL cells slots (MQ below (QV D ws A) args s cells slots A) ws pc lv [] := fun H locs ls hP hD hS hl => W.vret F.1 F.2.1 hr (fun t ht _ => ⟨⟨(), rfl, trivial, by rw [ht]; exact hP, hD⟩, hS.F ht⟩) hS.2.2 hd hlocks
end GWR
end
section
/-! CONTRACTS AND CALLS over the judgement GW -/
theorem wP_iff {D : va_G} {cl : List vw_C} {ws : va_W} {H : Heap} : va_P D cl ws H ↔ ∀ q ∈ ws, va_at D cl q H := by
  constructor
  · intro h q hq
    obtain ⟨k, hk⟩ := List.mem_iff_getElem?.mp hq
    exact h k q hk
  · intro h k q hk
    exact h q (List.mem_of_getElem? hk)
theorem nodup_i {l : List Nat} : l.Nodup ↔ ∀ (i j : Nat) (hi : i < l.length) (hj : j < l.length), i < j → l[i] ≠ l[j] := List.pairwise_iff_getElem
theorem wD_iff {A : Nat → Prop} {ws : va_W} : va_D A ws ↔ (ws.map Prod.fst).Nodup ∧ ∀ q ∈ ws, A q.1 := by
  constructor
  · intro h
    refine ⟨?_, fun q hq => ?_⟩
    · rw [nodup_i]
      intro i j hi hj hij he
      rw [List.length_map] at hi hj
      rw [List.getElem_map, List.getElem_map] at he
      have h1 := h.1 i j ws[i] ws[j] (List.getElem?_eq_getElem hi) (List.getElem?_eq_getElem hj) he
      omega
    · obtain ⟨k, hk⟩ := List.mem_iff_getElem?.mp hq
      exact h.2 k q hk
  · rintro ⟨h1, h2⟩
    refine ⟨fun i j p q hi hj he => ?_, fun k q hk => h2 q (List.mem_of_getElem? hk)⟩
    rw [nodup_i] at h1
    obtain ⟨li, ei⟩ := List.getElem?_eq_some_iff.mp hi
    obtain ⟨lj, ej⟩ := List.getElem?_eq_some_iff.mp hj
    have li' : i < (ws.map Prod.fst).length := by rw [List.length_map]; exact li
    have lj' : j < (ws.map Prod.fst).length := by rw [List.length_map]; exact lj
    have hm : (ws.map Prod.fst)[i] = (ws.map Prod.fst)[j] := by rw [List.getElem_map, List.getElem_map, ei, ej]; exact he
    rcases Nat.lt_trichotomy i j with h | h | h
    · exact absurd hm (h1 i j li' lj' h)
    · exact h
    · exact absurd hm.symm (h1 j i lj' li' h)
theorem wA_iff {ws : va_W} {sz q : Nat} : va_A ws sz q ↔ q ∈ ws.map Prod.fst ∨ sz ≤ q := by
  constructor
  · rintro (⟨k, e, h⟩ | h)
    · exact Or.inl (List.mem_map.mpr ⟨(q, e), List.mem_of_getElem? h, rfl⟩)
    · exact Or.inr h
  · rintro (h | h)
    · obtain ⟨⟨q', e⟩, h1, rfl⟩ := List.mem_map.mp h
      obtain ⟨k, hk⟩ := List.mem_iff_getElem?.mp h1
      exact Or.inl ⟨k, e, hk⟩
    · exact Or.inr h
/-- the frame rule: what lies ahead of a callee's cells and behind them stays -/
theorem w_frame {A0 : Nat → Prop} {D : va_G} {cl : List vw_C} {pre wc post w1 : va_W} {H H1 : Heap} (hP : va_P D cl (pre ++ wc ++ post) H) (hD : va_D A0 (pre ++ wc ++ post)) (hk : ∀ q : Nat, q < H.size → ¬ va_A wc H.size q → H1[q]? = H[q]?) (hF : ∀ q, va_A wc H.size q → A0 q) (hP1 : va_P D cl w1 H1) (hD1 : va_D (va_A wc H.size) w1) : va_P D cl (pre ++ w1 ++ post) H1 ∧ va_D A0 (pre ++ w1 ++ post) := by
  rw [wP_iff] at hP hP1
  rw [wD_iff] at hD hD1
  have hnd := hD.1
  rw [List.map_append, List.map_append, List.nodup_append, List.nodup_append] at hnd
  obtain ⟨⟨n1, n2, n3⟩, n4, n5⟩ := hnd
  have hpre : ∀ q ∈ pre, ¬ va_A wc H.size q.1 := by
    intro q hq h
    rcases wA_iff.mp h with h | h
    · exact n3 q.1 (List.mem_map.mpr ⟨q, hq, rfl⟩) q.1 h rfl
    · exact absurd (hP q (List.mem_append_left _ (List.mem_append_left _ hq))).lt (Nat.not_lt.mpr h)
  have hpost : ∀ q ∈ post, ¬ va_A wc H.size q.1 := by
    intro q hq h
    rcases wA_iff.mp h with h | h
    · exact n5 q.1 (List.mem_append_right _ h) q.1 (List.mem_map.mpr ⟨q, hq, rfl⟩) rfl
    · exact absurd (hP q (List.mem_append_right _ hq)).lt (Nat.not_lt.mpr h)
  refine ⟨wP_iff.mpr fun q hq => ?_, wD_iff.mpr ⟨?_, fun q hq => ?_⟩⟩
  · rcases List.mem_append.mp hq with hq | hq
    · rcases List.mem_append.mp hq with hq | hq
      · have h0 := hP q (List.mem_append_left _ (List.mem_append_left _ hq))
        exact h0.kept (hk q.1 h0.lt (hpre q hq))
      · exact hP1 q hq
    · have h0 := hP q (List.mem_append_right _ hq)
      exact h0.kept (hk q.1 h0.lt (hpost q hq))
  · rw [List.map_append, List.map_append, List.nodup_append, List.nodup_append]
    have hin : ∀ a ∈ w1.map Prod.fst, va_A wc H.size a := by
      intro a ha
      obtain ⟨q, hq, rfl⟩ := List.mem_map.mp ha
      exact hD1.2 q hq
    refine ⟨⟨n1, hD1.1, ?_⟩, n4, ?_⟩
    · rintro a ha b hb rfl
      obtain ⟨q, hq, rfl⟩ := List.mem_map.mp ha
      exact hpre q hq (hin _ hb)
    · rintro a ha b hb rfl
      obtain ⟨q, hq, rfl⟩ := List.mem_map.mp hb
      rcases List.mem_append.mp ha with ha | ha
      · exact n5 _ (List.mem_append_left _ ha) _ (List.mem_map.mpr ⟨q, hq, rfl⟩) rfl
      · exact hpost q hq (hin _ ha)
  · rcases List.mem_append.mp hq with hq | hq
    · rcases List.mem_append.mp hq with hq | hq
      · exact hD.2 q (List.mem_append_left _ (List.mem_append_left _ hq))
      · exact hF _ (hD1.2 q hq)
    · exact hD.2 q (List.mem_append_right _ hq)
theorem w_subP {D : va_G} {cl : List vw_C} {pre wc post : va_W} {H : Heap} (hP : va_P D cl (pre ++ wc ++ post) H) : va_P D cl wc H := wP_iff.mpr fun q hq => wP_iff.mp hP q (List.mem_append_left _ (List.mem_append_right _ hq))
theorem w_subD {A : Nat → Prop} {pre wc post : va_W} (hD : va_D A (pre ++ wc ++ post)) : va_D (fun _ => True) wc := by
  rw [wD_iff] at hD ⊢
  have h := hD.1
  rw [List.map_append, List.map_append, List.nodup_append, List.nodup_append] at h
  exact ⟨h.1.2.1, fun _ _ => trivial⟩
theorem w_subA {A : Nat → Prop} {pre wc post : va_W} {sz : Nat} (hD : va_D A (pre ++ wc ++ post)) (hA : ∀ q, sz ≤ q → A q) : ∀ q, va_A wc sz q → A q := by
  intro q h
  rw [wD_iff] at hD
  rcases wA_iff.mp h with h | h
  · obtain ⟨x, hx, rfl⟩ := List.mem_map.mp h
    exact hD.2 x (List.mem_append_left _ (List.mem_append_right _ hx))
  · exact hA q h
/-- a contract: the world wc becomes w1, and the answer is x -/
def PC (D : va_G) (Y : Nat → ClassId) (wc : va_W) (vals : List Value) (sz : Nat) : Array Value → State → Prop := va_Pc vals (fun U => U.heap.size = sz ∧ va_P D classes wc U.heap ∧ KK D Y U ∧ va_D (fun _ => True) wc)
theorem PC.blind {D : va_G} {Y : Nat → ClassId} {wc : va_W} {vals : List Value} {sz : Nat} : FrameBlind (PC D Y wc vals sz) := fun a U g mk h => ⟨h.1, h.2.1, h.2.2.1, KK.same (s := U) (U := U.calling g mk a) rfl h.2.2.2.1, h.2.2.2.2⟩
def CMi (l : Launch) (y : MethodName) (bytes : ByteArray) (maxL : Nat) (ret : Option FieldType) (fr lo : Nat) (D : va_G) (Y : Nat → ClassId) (wc w1 : va_W) (vals : List Value) (x : Int32) : Prop :=
  ∀ sz, Met l y (.code y bytes maxL ret :: TBL) { frames := fr, cells := 0, slots := 0, locals := lo } (PC D Y wc vals sz) (QI D w1 x (va_A wc sz)) 0 0 (va_A wc sz)
def CMv (l : Launch) (y : MethodName) (bytes : ByteArray) (maxL : Nat) (fr lo : Nat) (D : va_G) (Y : Nat → ClassId) (wc w1 : va_W) (vals : List Value) : Prop :=
  ∀ sz, Met l y (.code y bytes maxL none :: TBL) { frames := fr, cells := 0, slots := 0, locals := lo } (PC D Y wc vals sz) (QV D w1 (va_A wc sz)) 0 0 (va_A wc sz)
section OFS
variable {l : Launch} {y : MethodName} {bytes : ByteArray} {maxL : Nat} {ret : Option FieldType} {fr lo : Nat} {D : va_G} {Y : Nat → ClassId} {wc w1 : va_W} {vals : List Value} {lv0 : List (Nat × Value)}
theorem cm_base {Q9 : (Nat → Prop) → List Frame → Array Value → State → State → Prop} {Qc : (Nat → Prop) → Array Value → State → Outcome → State → Prop} (hy : plainName y.cls = true) (hn : (lg_sl vals).length ≤ maxL) (h0 : lv_args 0 vals = lv0)
    (body : ∀ (p : Program) (e : Env) (s : State) (m : MethodId) (args : Array Value) (below : List Frame) (meth : Method) (c : Code) (A : Nat → Prop), Fx p s m args c D Y A bytes maxL y.cls → meth.sig.returnType = ret → meth.locks = false → GW p l e { frames := fr, cells := 0, slots := 0, locals := lo } s m args below meth c D A maxL 0 0 (MQ below (Qc A) args s 0 0 A) wc 0 lv0 []) (sz : Nat) :
    Met l y (.code y bytes maxL ret :: TBL) { frames := fr, cells := 0, slots := 0, locals := lo } (PC D Y wc vals sz) (Qc (va_A wc sz)) 0 0 (va_A wc sz) := by
  refine Met.ofW (cc := bytes) (maxL := maxL) (ret := ret) hy rfl ?_
  intro p e s m args below meth c s₁ B hml hv
  obtain ⟨rfl, hsz, hP, hK, hD0⟩ := hv
  have hts := atoms_spec (ws := .code y bytes maxL ret :: TBL) B.pre
  have hown : s.vm.findClass y.cls = some m.cls := findClass_of_methodNamed B.named
  subst hsz
  have hD := hD0.self (sz := s.heap.size)
  have hA : ∀ q : Nat, s.heap.size ≤ q → va_A wc s.heap.size q := fun q h => Or.inr h
  have hl := lv_entry vals (n := maxL) hn
  rw [lg_entry_eq]
  rw [h0] at hl
  exact body p e s m vals.toArray below meth c (va_A wc s.heap.size) ⟨B.exec, B.bytes, hml, hown, fun w hw => hts w (List.mem_cons_of_mem _ hw), hK, hA⟩ B.returns B.notSynchronized s.heap [] _ hP hD va_S.rf hl
theorem cm_ofi {x : Int32} (hy : plainName y.cls = true) (hn : (lg_sl vals).length ≤ maxL) (h0 : lv_args 0 vals = lv0)
    (body : ∀ (p : Program) (e : Env) (s : State) (m : MethodId) (args : Array Value) (below : List Frame) (meth : Method) (c : Code) (A : Nat → Prop), Fx p s m args c D Y A bytes maxL y.cls → meth.sig.returnType = ret → meth.locks = false → GW p l e { frames := fr, cells := 0, slots := 0, locals := lo } s m args below meth c D A maxL 0 0 (MQ below (QI D w1 x A) args s 0 0 A) wc 0 lv0 []) : CMi l y bytes maxL ret fr lo D Y wc w1 vals x := fun sz => cm_base (Q9 := fun _ _ _ _ _ => True) (Qc := fun A => QI D w1 x A) hy hn h0 body sz
theorem cm_ofv (hy : plainName y.cls = true) (hn : (lg_sl vals).length ≤ maxL) (h0 : lv_args 0 vals = lv0)
    (body : ∀ (p : Program) (e : Env) (s : State) (m : MethodId) (args : Array Value) (below : List Frame) (meth : Method) (c : Code) (A : Nat → Prop), Fx p s m args c D Y A bytes maxL y.cls → meth.sig.returnType = none → meth.locks = false → GW p l e { frames := fr, cells := 0, slots := 0, locals := lo } s m args below meth c D A maxL 0 0 (MQ below (QV D w1 A) args s 0 0 A) wc 0 lv0 []) : CMv l y bytes maxL fr lo D Y wc w1 vals := fun sz => cm_base (Q9 := fun _ _ _ _ _ => True) (Qc := fun A => QV D w1 A) hy hn h0 body sz
end OFS
section CALLS
variable {p : Program} {l : Launch} {e : Env} {R : Room} {s : State} {m : MethodId} {args : Array Value} {below : List Frame} {meth : Method} {c : Code} {D : va_G} {Y : Nat → ClassId} {A : Nat → Prop} {cc : ByteArray} {nL : Nat} {own : String} {cells slots : Nat} {Q : State → Prop} {ws ws1 wc w1 : va_W} {pc : Nat} {lv : List (Nat × Value)} {st rest : List Value}
variable {y : MethodName} {bytes : ByteArray} {maxL : Nat} {ret : Option FieldType} {fr lo index b q0 ci n : Nat} {As : List Value} {fs : List Value} {C : String} {T : u_T} {N : Nat} {x : Int32}
def mOK (y : MethodName) (n : Nat) : Prop := y.cls ≠ "java/lang/invoke/MethodHandle" ∧ y.cls ≠ "java/lang/invoke/VarHandle" ∧ (parseMethodDescriptor y.desc).map (fun d => d.parameters.length) = some n
theorem g_hp (F : Fx p s m args c D Y A cc nL own) {H : Heap} {vals : List Value} (hP : va_P D classes wc H) (hD : va_D (fun _ => True) wc) : ∀ U : State, U.heap = H → s.WarmedH U.vm → PC D Y wc vals H.size vals.toArray U := fun U hU hW => ⟨rfl, by rw [hU], by rw [hU]; exact hP, KK.warm hW F.2.2.2.2.2.1, hD⟩
theorem g_callVi (F : Fx p s m args c D Y A cc nL own) (pre post : va_W) (hM : CMi l y bytes maxL ret fr lo D Y wc w1 (.ref b :: As) x) (hws : ws = pre ++ wc ++ post) (hw1 : pre ++ w1 ++ post = ws1) (hy : mOK y n) (hn : As.length = n) (hcl : y.cls = C) (hcd : Cond.code y bytes maxL ret ∈ TBL) (hml : Cond.methodLink own index y ∈ TBL) (him : Cond.instanceMethod y ∈ TBL) (hse : Cond.selects C y y ∈ TBL) (hin : Cond.initialized C ∈ TBL)
    (he : wc[q0]? = some (b, .inr (ci, fs))) (hc : classes[ci]? = some (C, T, N)) (hR : fr + 1 ≤ R.frames ∧ 8 + (maxL + 11) + lo ≤ R.locals) (hcs : cells ≤ R.cells ∧ slots ≤ R.slots) (hst : st = As.reverse ++ .ref b :: rest) (hcat : (rest.map fun v => v.category).sum ≤ 8) (hd : decode cc pc = .ok (.invokevirtual index, 3))
    (kk : GW p l e R s m args below meth c D A nL cells slots Q ws1 (pc + 3) lv (.int x :: rest)) : GW p l e R s m args below meth c D A nL cells slots Q ws pc lv st := by
  intro H locs ls hP hD hS hl
  subst hws hw1 hst
  have hPc := w_subP hP
  have hDc := w_subD hD
  have hA : ∀ q, H.size ≤ q → A q := fun q h => F.2.2.2.2.2.2 q (Nat.le_trans hS.1 h)
  have hFc := w_subA hD hA
  refine va_calli (va_runV (As := As) (rest := rest) ⟨F.1, F.2.1, F.2.2.1, F.2.2.2.1, F.2.2.2.2.1⟩ (hM H.size) (cwV (C := C) n F.2.2.2.2.1 ?_ rfl rfl rfl ⟨hcl, hy⟩ hR) ⟨PC.blind, va_recv F.2.2.2.2.2.1.1 hPc hc he, g_hp F hPc hDc⟩ rfl hn hl.1 rfl (lv_room hcat) hd hcs) hS (fun q _ h => hFc q h) hFc (fun r u t H1 locs1 ht hvm hw hB hz1 hk1 hS1 => ?_)
  · intro w hw
    have hT : w ∈ TBL := by
      rcases List.mem_append.mp hw with h | h
      · simp only [List.mem_cons, List.not_mem_nil, or_false] at h
        rcases h with rfl | rfl | rfl | rfl
        · exact hml
        · exact him
        · exact hse
        · exact hin
      · rcases List.mem_cons.mp h with h | h
        · rw [h]; exact hcd
        · exact h
    exact ⟨hT, good_of_word (tbl_good hT)⟩
  · obtain rfl : r = x := hw
    rw [ht] at hB
    obtain ⟨hP1, hD1⟩ := w_frame hP hD hk1 hFc hB.1 hB.2
    exact kk H1 locs1 ls hP1 hD1 hS1 hl
theorem g_callVv (F : Fx p s m args c D Y A cc nL own) (pre post : va_W) (hM : CMv l y bytes maxL fr lo D Y wc w1 (.ref b :: As)) (hws : ws = pre ++ wc ++ post) (hw1 : pre ++ w1 ++ post = ws1) (hy : mOK y n) (hn : As.length = n) (hcl : y.cls = C) (hcd : Cond.code y bytes maxL none ∈ TBL) (hml : Cond.methodLink own index y ∈ TBL) (him : Cond.instanceMethod y ∈ TBL) (hse : Cond.selects C y y ∈ TBL) (hin : Cond.initialized C ∈ TBL)
    (he : wc[q0]? = some (b, .inr (ci, fs))) (hc : classes[ci]? = some (C, T, N)) (hR : fr + 1 ≤ R.frames ∧ 8 + (maxL + 11) + lo ≤ R.locals) (hcs : cells ≤ R.cells ∧ slots ≤ R.slots) (hst : st = As.reverse ++ .ref b :: rest) (hcat : (rest.map fun v => v.category).sum ≤ 8) (hd : decode cc pc = .ok (.invokevirtual index, 3))
    (kk : GW p l e R s m args below meth c D A nL cells slots Q ws1 (pc + 3) lv rest) : GW p l e R s m args below meth c D A nL cells slots Q ws pc lv st := by
  intro H locs ls hP hD hS hl
  subst hws hw1 hst
  have hPc := w_subP hP
  have hDc := w_subD hD
  have hA : ∀ q, H.size ≤ q → A q := fun q h => F.2.2.2.2.2.2 q (Nat.le_trans hS.1 h)
  have hFc := w_subA hD hA
  refine va_callv (va_runV (As := As) (rest := rest) ⟨F.1, F.2.1, F.2.2.1, F.2.2.2.1, F.2.2.2.2.1⟩ (hM H.size) (cwV (C := C) n F.2.2.2.2.1 ?_ rfl rfl rfl ⟨hcl, hy⟩ hR) ⟨PC.blind, va_recv F.2.2.2.2.2.1.1 hPc hc he, g_hp F hPc hDc⟩ rfl hn hl.1 rfl (lv_room hcat) hd hcs) hS (fun q _ h => hFc q h) hFc (fun u t H1 locs1 ht hvm hw hB hz1 hk1 hS1 => ?_)
  · intro w hw
    have hT : w ∈ TBL := by
      rcases List.mem_append.mp hw with h | h
      · simp only [List.mem_cons, List.not_mem_nil, or_false] at h
        rcases h with rfl | rfl | rfl | rfl
        · exact hml
        · exact him
        · exact hse
        · exact hin
      · rcases List.mem_cons.mp h with h | h
        · rw [h]; exact hcd
        · exact h
    exact ⟨hT, good_of_word (tbl_good hT)⟩
  · rw [ht] at hB
    obtain ⟨hP1, hD1⟩ := w_frame hP hD hk1 hFc hB.1 hB.2
    exact kk H1 locs1 ls hP1 hD1 hS1 hl
/-- a static call: its contract over the empty world -/
theorem g_callS (F : Fx p s m args c D Y A cc nL own) (hM : CMi l y bytes maxL ret fr lo D Y [] [] As x) (hy : mOK y n) (hn : As.length = n) (hcd : Cond.code y bytes maxL ret ∈ TBL) (hml : Cond.methodLink own index y ∈ TBL) (hsm : Cond.static y ∈ TBL) (hin : Cond.initialized y.cls ∈ TBL)
    (hR : fr + 1 ≤ R.frames ∧ 8 + (maxL + 11) + lo ≤ R.locals) (hcs : cells ≤ R.cells ∧ slots ≤ R.slots) (hst : st = As.reverse ++ rest) (hcat : (rest.map fun v => v.category).sum ≤ 8) (hd : decode cc pc = .ok (.invokestatic index, 3))
    (kk : GW p l e R s m args below meth c D A nL cells slots Q ws (pc + 3) lv (.int x :: rest)) : GW p l e R s m args below meth c D A nL cells slots Q ws pc lv st := by
  intro H locs ls hP hD hS hl
  subst hst
  have hP' : va_P D classes (ws ++ [] ++ []) H := by simpa using hP
  have hD' : va_D A (ws ++ [] ++ []) := by simpa using hD
  have hPc := w_subP hP'
  have hDc := w_subD hD'
  have hA : ∀ q, H.size ≤ q → A q := fun q h => F.2.2.2.2.2.2 q (Nat.le_trans hS.1 h)
  have hFc := w_subA hD' hA
  refine va_calli (va_runS (As := As) (rest := rest) ⟨F.1, F.2.1, F.2.2.1, F.2.2.2.1, F.2.2.2.2.1⟩ (hM H.size) (va_cwS n F.2.2.2.2.1 ?_ rfl rfl rfl hy hR) ⟨PC.blind, g_hp F hPc hDc⟩ rfl hn hl.1 rfl (lv_room hcat) hd hcs) hS (fun q _ h => hFc q h) hFc (fun r u t H1 locs1 ht hvm hw hB hz1 hk1 hS1 => ?_)
  · intro w hw
    have hT : w ∈ TBL := by
      rcases List.mem_append.mp hw with h | h
      · simp only [List.mem_cons, List.not_mem_nil, or_false] at h
        rcases h with rfl | rfl | rfl
        · exact hml
        · exact hsm
        · exact hin
      · rcases List.mem_cons.mp h with h | h
        · rw [h]; exact hcd
        · exact h
    exact ⟨hT, good_of_word (tbl_good hT)⟩
  · obtain rfl : r = x := hw
    rw [ht] at hB
    obtain ⟨hP1, hD1⟩ := w_frame hP' hD' hk1 hFc hB.1 hB.2
    exact kk H1 locs1 ls (by simpa using hP1) (by simpa using hD1) hS1 hl
/-- a static call of a nest mate's private method -/
theorem g_callSN (F : Fx p s m args c D Y A cc nL own) {host : String} (hM : CMi l y bytes maxL ret fr lo D Y [] [] As x) (hy : mOK y n) (hn : As.length = n) (hcd : Cond.code y bytes maxL ret ∈ TBL) (hml : va_Nw (.methodLinkNest own index y host) s) (hsm : Cond.static y ∈ TBL) (hin : Cond.initialized y.cls ∈ TBL)
    (hR : fr + 1 ≤ R.frames ∧ 8 + (maxL + 11) + lo ≤ R.locals) (hcs : cells ≤ R.cells ∧ slots ≤ R.slots) (hst : st = As.reverse ++ rest) (hcat : (rest.map fun v => v.category).sum ≤ 8) (hd : decode cc pc = .ok (.invokestatic index, 3))
    (kk : GW p l e R s m args below meth c D A nL cells slots Q ws (pc + 3) lv (.int x :: rest)) : GW p l e R s m args below meth c D A nL cells slots Q ws pc lv st := by
  intro H locs ls hP hD hS hl
  subst hst
  have hP' : va_P D classes (ws ++ [] ++ []) H := by simpa using hP
  have hD' : va_D A (ws ++ [] ++ []) := by simpa using hD
  have hPc := w_subP hP'
  have hDc := w_subD hD'
  have hA : ∀ q, H.size ≤ q → A q := fun q h => F.2.2.2.2.2.2 q (Nat.le_trans hS.1 h)
  have hFc := w_subA hD' hA
  refine va_calli (va_runSN (As := As) (rest := rest) ⟨F.1, F.2.1, F.2.2.1, F.2.2.2.1, F.2.2.2.2.1⟩ (hM H.size) ⟨va_cnB n F.2.2.2.2.1 ?_ rfl rfl rfl hml (F.2.2.2.2.1 _ hin) hy hR, F.2.2.2.2.1 _ hsm, trivial⟩ ⟨PC.blind, g_hp F hPc hDc⟩ rfl hn hl.1 rfl (lv_room hcat) hd hcs) hS (fun q _ h => hFc q h) hFc (fun r u t H1 locs1 ht hvm hw hB hz1 hk1 hS1 => ?_)
  · intro w hw
    have hT : w ∈ TBL := by
      rcases List.mem_cons.mp hw with h | h
      · rw [h]; exact hcd
      · exact h
    exact ⟨hT, good_of_word (tbl_good hT)⟩
  · obtain rfl : r = x := hw
    rw [ht] at hB
    obtain ⟨hP1, hD1⟩ := w_frame hP' hD' hk1 hFc hB.1 hB.2
    exact kk H1 locs1 ls (by simpa using hP1) (by simpa using hD1) hS1 hl
end CALLS
end
section
/-! THE WORLDS: the class's 50 cells, the reference's 23, a Row's two; a state is (rows, numbers) -/
abbrev St : Type := (Nat → Nat → Int32) × (Nat → Int32)
def sS (u : St) (j : Nat) (v : Int32) : St := (u.1, va_up u.2 j v)
def sA (u : St) (k : Nat) (f : Nat → Int32) : St := (va_up u.1 k f, u.2)
def rl (k : Nat) : Nat := match k with
  | 0 => 60
  | 1 => 60
  | 2 => 60
  | 3 => 60
  | 4 => 60
  | 5 => 60
  | 6 => 60
  | 7 => 10
  | 8 => 40
  | 9 => 6
  | 10 => 6
  | 11 => 6
  | 12 => 6
  | 13 => 72
  | 14 => 72
  | 15 => 20
  | 16 => 20
  | 17 => 20
  | 18 => 2
  | 19 => 2
  | 20 => 2
  | _ => 10
def wC (Y : Nat → ClassId) (q : Nat → Nat) (u : St) : va_W := [(q 0, .inr (6, [.ref (q 1), .ref (q 2), .ref (q 3), .ref (q 4), .ref (q 5), .ref (q 48), .int (u.2 0), .int (u.2 1), .int (u.2 2), .int (u.2 3), .int (u.2 4), .int (u.2 5)])), (q 1, .inr (0, [.ref (q 6), .ref (q 8), .ref (q 10), .ref (q 12), .ref (q 14), .ref (q 16), .ref (q 18), .int (u.2 6)])), (q 2, .inr (5, [.ref (q 20), .ref (q 22)])), (q 3, .inr (4, [.ref (q 24), .ref (q 26), .ref (q 28), .ref (q 30), .int (u.2 7), .ref (q 32), .ref (q 34)])), (q 4, .inr (2, [.ref (q 36), .ref (q 38), .ref (q 40), .int (u.2 8)])), (q 5, .inr (1, [.ref (q 42), .ref (q 44), .ref (q 46)])), (q 6, .inr (3, [.ref (q 7)])), (q 7, .inl (Y 0, 60, .inl (u.1 0))), (q 8, .inr (3, [.ref (q 9)])), (q 9, .inl (Y 0, 60, .inl (u.1 1))), (q 10, .inr (3, [.ref (q 11)])), (q 11, .inl (Y 0, 60, .inl (u.1 2))), (q 12, .inr (3, [.ref (q 13)])), (q 13, .inl (Y 0, 60, .inl (u.1 3))), (q 14, .inr (3, [.ref (q 15)])), (q 15, .inl (Y 0, 60, .inl (u.1 4))), (q 16, .inr (3, [.ref (q 17)])), (q 17, .inl (Y 0, 60, .inl (u.1 5))), (q 18, .inr (3, [.ref (q 19)])), (q 19, .inl (Y 0, 60, .inl (u.1 6))), (q 20, .inr (3, [.ref (q 21)])), (q 21, .inl (Y 0, 10, .inl (u.1 7))), (q 22, .inr (3, [.ref (q 23)])), (q 23, .inl (Y 0, 40, .inl (u.1 8))), (q 24, .inr (3, [.ref (q 25)])), (q 25, .inl (Y 0, 6, .inl (u.1 9))), (q 26, .inr (3, [.ref (q 27)])), (q 27, .inl (Y 0, 6, .inl (u.1 10))), (q 28, .inr (3, [.ref (q 29)])), (q 29, .inl (Y 0, 6, .inl (u.1 11))), (q 30, .inr (3, [.ref (q 31)])), (q 31, .inl (Y 0, 6, .inl (u.1 12))), (q 32, .inr (3, [.ref (q 33)])), (q 33, .inl (Y 0, 72, .inl (u.1 13))), (q 34, .inr (3, [.ref (q 35)])), (q 35, .inl (Y 0, 72, .inl (u.1 14))), (q 36, .inr (3, [.ref (q 37)])), (q 37, .inl (Y 0, 20, .inl (u.1 15))), (q 38, .inr (3, [.ref (q 39)])), (q 39, .inl (Y 0, 20, .inl (u.1 16))), (q 40, .inr (3, [.ref (q 41)])), (q 41, .inl (Y 0, 20, .inl (u.1 17))), (q 42, .inr (3, [.ref (q 43)])), (q 43, .inl (Y 0, 2, .inl (u.1 18))), (q 44, .inr (3, [.ref (q 45)])), (q 45, .inl (Y 0, 2, .inl (u.1 19))), (q 46, .inr (3, [.ref (q 47)])), (q 47, .inl (Y 0, 2, .inl (u.1 20))), (q 48, .inr (3, [.ref (q 49)])), (q 49, .inl (Y 0, 10, .inl (u.1 21)))]
def wM (Y : Nat → ClassId) (q : Nat → Nat) (u : St) : va_W := [(q 0, .inr (7, [.int (u.2 0), .ref (q 1), .ref (q 2), .ref (q 3), .ref (q 4), .ref (q 5), .int (u.2 1), .int (u.2 2), .int (u.2 3), .int (u.2 4), .ref (q 6), .ref (q 7), .ref (q 8), .ref (q 9), .ref (q 10), .ref (q 11), .ref (q 12), .ref (q 13), .ref (q 14), .int (u.2 5), .ref (q 15), .ref (q 16), .ref (q 17), .ref (q 18), .int (u.2 6), .ref (q 19), .ref (q 20), .ref (q 21), .int (u.2 7), .int (u.2 8), .ref (q 22)])), (q 1, .inl (Y 0, 72, .inl (u.1 0))), (q 2, .inl (Y 1, 72, .inl (u.1 1))), (q 3, .inl (Y 1, 6, .inl (u.1 2))), (q 4, .inl (Y 0, 6, .inl (u.1 3))), (q 5, .inl (Y 0, 6, .inl (u.1 4))), (q 6, .inl (Y 0, 60, .inl (u.1 5))), (q 7, .inl (Y 0, 60, .inl (u.1 6))), (q 8, .inl (Y 0, 60, .inl (u.1 7))), (q 9, .inl (Y 0, 60, .inl (u.1 8))), (q 10, .inl (Y 0, 60, .inl (u.1 9))), (q 11, .inl (Y 0, 60, .inl (u.1 10))), (q 12, .inl (Y 0, 60, .inl (u.1 11))), (q 13, .inl (Y 0, 10, .inl (u.1 12))), (q 14, .inl (Y 0, 40, .inl (u.1 13))), (q 15, .inl (Y 1, 10, .inl (u.1 14))), (q 16, .inl (Y 0, 2, .inl (u.1 15))), (q 17, .inl (Y 0, 2, .inl (u.1 16))), (q 18, .inl (Y 0, 2, .inl (u.1 17))), (q 19, .inl (Y 0, 20, .inl (u.1 18))), (q 20, .inl (Y 0, 20, .inl (u.1 19))), (q 21, .inl (Y 0, 20, .inl (u.1 20))), (q 22, .inl (Y 0, 6, .inl (u.1 21)))]
def wR (Y : Nat → ClassId) (a b n : Nat) (f : Nat → Int32) : va_W := [(a, .inr (3, [.ref b])), (b, .inl (Y 0, n, .inl f))]
-- rows: 0 told 1 truth 2 port 3 kind 4 papers 5 where 6 place 7 height 8 held 9 open 10 jammedTill 11 water 12 load 13 shipheld 14 plugs 15 what 16 its 17 qplace 18 from 19 to 20 lifts 21 leftOut
-- numbers: 0 X6.hour 1 X6.port 2 X6.paid 3 X6.trimBound 4 X6.heelBound 5 X6.bendingBound 6 X0.count 7 X4.heel 8 X2.count
-- the reference, rows: 0 slot 1 hasPlug 2 isOpen 3 jammedTo 4 water 5 told 6 truth 7 port 8 kind 9 papers 10 where 11 place 12 high 13 stack 14 isOut 15 from 16 to 17 lifts 18 what 19 its 20 goal 21 load; numbers: 0 thrown 1 mostTrim 2 mostHeel 3 mostBending 4 boxes 5 now 6 orders 7 hour 8 cost
section WORLDS
variable {p : Program} {l : Launch} {e : Env} {R : Room} {s : State} {m : MethodId} {args : Array Value} {below : List Frame} {meth : Method} {c : Code} {D : va_G} {Y : Nat → ClassId} {A : Nat → Prop} {cc : ByteArray} {nL : Nat} {own : String} {cells slots : Nat} {Q : State → Prop} {pc : Nat} {lv : List (Nat × Value)} {st : List Value} {q : Nat → Nat} {u : St}
theorem g_retC {wf : St → va_W} {u1 : St} {v r : Int32} (F : Fx p s m args c D Y A cc nL own) {ty : FieldType} (hr : meth.sig.returnType = some ty) (hn : narrow ty (.int v) = .int v) (hlocks : meth.locks = false) (hd : decode cc pc = .ok (.ireturn, 1)) (hX : some (v, u) = some (r, u1)) : GW p l e R s m args below meth c D A nL cells slots (MQ below (QI D (wf u1) r A) args s cells slots A) (wf u) pc lv [.int v] := by
  cases hX; exact g_iret F hr hn hlocks hd
theorem g_retV {wf : St → va_W} {u1 : St} {v r : Int32} (F : Fx p s m args c D Y A cc nL own) (hr : meth.sig.returnType = none) (hlocks : meth.locks = false) (hd : decode cc pc = .ok (.return_, 1)) (hX : some (v, u) = some (r, u1)) : GW p l e R s m args below meth c D A nL cells slots (MQ below (QV D (wf u1) A) args s cells slots A) (wf u) pc lv [] := by
  cases hX; exact g_vret F hr hlocks hd
theorem g_retS {v r : Int32} {ws : va_W} (F : Fx p s m args c D Y A cc nL own) {ty : FieldType} (hr : meth.sig.returnType = some ty) (hn : narrow ty (.int v) = .int v) (hlocks : meth.locks = false) (hd : decode cc pc = .ok (.ireturn, 1)) (hX : v = r) : GW p l e R s m args below meth c D A nL cells slots (MQ below (QI D ws r A) args s cells slots A) ws pc lv [.int v] := by
  cases hX; exact g_iret F hr hn hlocks hd
def bnd {α β γ : Type} (o : Option (α × β)) (f : α → β → Option γ) : Option γ := match o with
  | none => none
  | some x => f x.1 x.2
theorem bnd_s {α β γ : Type} {o : Option (α × β)} {f : α → β → Option γ} {z : γ} (h : bnd o f = some z) : ∃ r u, o = some (r, u) ∧ f r u = some z := by
  cases o with
  | none => cases h
  | some x => exact ⟨x.1, x.2, rfl, h⟩
theorem inb {α : Type} {C : Prop} [Decidable C] {a : Option α} {z : α} (h : (if C then none else a) = some z) : ¬ C ∧ a = some z := by
  by_cases hc : C
  · rw [if_pos hc] at h; cases h
  · rw [if_neg hc] at h; exact ⟨hc, h⟩
theorem if_t {α : Type} {C : Prop} [Decidable C] {a b z : α} (hX : (if C then a else b) = z) (h : C) : a = z := (if_pos h).symm.trans hX
theorem if_f {α : Type} {C : Prop} [Decidable C] {a b z : α} (hX : (if C then a else b) = z) (h : ¬ C) : b = z := (if_neg h).symm.trans hX
theorem G_X3_9 {a b n : Nat} {f : Nat → Int32} (F : Fx p s m args c D Y A cc nL RX3) (hd : decode cc pc = .ok (.getfield 9, 3)) (kk : GW p l e R s m args below meth c D A nL cells slots Q (wR Y a b n f) (pc + 3) lv (.ref b :: st)) : GW p l e R s m args below meth c D A nL cells slots Q (wR Y a b n f) pc lv (.ref a :: st) := g_get F lay_X3 0 rfl rfl 0 (by decide) fl_X3_9 rfl rfl hd kk
theorem G_X0_14 (F : Fx p s m args c D Y A cc nL RX0) (hd : decode cc pc = .ok (.getfield 14, 3)) (kk : GW p l e R s m args below meth c D A nL cells slots Q (wC Y q u) (pc + 3) lv (.ref (q 6) :: st)) : GW p l e R s m args below meth c D A nL cells slots Q (wC Y q u) pc lv (.ref (q 1) :: st) := g_get F lay_X0 1 rfl rfl 0 (by decide) fl_X0_14 rfl rfl hd kk
theorem G_X6_258 (F : Fx p s m args c D Y A cc nL RX6) (hd : decode cc pc = .ok (.getfield 258, 3)) (kk : GW p l e R s m args below meth c D A nL cells slots Q (wC Y q u) (pc + 3) lv (.ref (q 6) :: st)) : GW p l e R s m args below meth c D A nL cells slots Q (wC Y q u) pc lv (.ref (q 1) :: st) := g_get F lay_X0 1 rfl rfl 0 (by decide) fl_X6_258 rfl rfl hd kk
theorem G_X0_20 (F : Fx p s m args c D Y A cc nL RX0) (hd : decode cc pc = .ok (.getfield 20, 3)) (kk : GW p l e R s m args below meth c D A nL cells slots Q (wC Y q u) (pc + 3) lv (.ref (q 8) :: st)) : GW p l e R s m args below meth c D A nL cells slots Q (wC Y q u) pc lv (.ref (q 1) :: st) := g_get F lay_X0 1 rfl rfl 1 (by decide) fl_X0_20 rfl rfl hd kk
theorem G_X6_289 (F : Fx p s m args c D Y A cc nL RX6) (hd : decode cc pc = .ok (.getfield 289, 3)) (kk : GW p l e R s m args below meth c D A nL cells slots Q (wC Y q u) (pc + 3) lv (.ref (q 8) :: st)) : GW p l e R s m args below meth c D A nL cells slots Q (wC Y q u) pc lv (.ref (q 1) :: st) := g_get F lay_X0 1 rfl rfl 1 (by decide) fl_X6_289 rfl rfl hd kk
theorem G_X0_23 (F : Fx p s m args c D Y A cc nL RX0) (hd : decode cc pc = .ok (.getfield 23, 3)) (kk : GW p l e R s m args below meth c D A nL cells slots Q (wC Y q u) (pc + 3) lv (.ref (q 10) :: st)) : GW p l e R s m args below meth c D A nL cells slots Q (wC Y q u) pc lv (.ref (q 1) :: st) := g_get F lay_X0 1 rfl rfl 2 (by decide) fl_X0_23 rfl rfl hd kk
theorem G_X6_213 (F : Fx p s m args c D Y A cc nL RX6) (hd : decode cc pc = .ok (.getfield 213, 3)) (kk : GW p l e R s m args below meth c D A nL cells slots Q (wC Y q u) (pc + 3) lv (.ref (q 10) :: st)) : GW p l e R s m args below meth c D A nL cells slots Q (wC Y q u) pc lv (.ref (q 1) :: st) := g_get F lay_X0 1 rfl rfl 2 (by decide) fl_X6_213 rfl rfl hd kk
theorem G_X0_26 (F : Fx p s m args c D Y A cc nL RX0) (hd : decode cc pc = .ok (.getfield 26, 3)) (kk : GW p l e R s m args below meth c D A nL cells slots Q (wC Y q u) (pc + 3) lv (.ref (q 12) :: st)) : GW p l e R s m args below meth c D A nL cells slots Q (wC Y q u) pc lv (.ref (q 1) :: st) := g_get F lay_X0 1 rfl rfl 3 (by decide) fl_X0_26 rfl rfl hd kk
theorem G_X6_78 (F : Fx p s m args c D Y A cc nL RX6) (hd : decode cc pc = .ok (.getfield 78, 3)) (kk : GW p l e R s m args below meth c D A nL cells slots Q (wC Y q u) (pc + 3) lv (.ref (q 12) :: st)) : GW p l e R s m args below meth c D A nL cells slots Q (wC Y q u) pc lv (.ref (q 1) :: st) := g_get F lay_X0 1 rfl rfl 3 (by decide) fl_X6_78 rfl rfl hd kk
theorem G_X0_29 (F : Fx p s m args c D Y A cc nL RX0) (hd : decode cc pc = .ok (.getfield 29, 3)) (kk : GW p l e R s m args below meth c D A nL cells slots Q (wC Y q u) (pc + 3) lv (.ref (q 14) :: st)) : GW p l e R s m args below meth c D A nL cells slots Q (wC Y q u) pc lv (.ref (q 1) :: st) := g_get F lay_X0 1 rfl rfl 4 (by decide) fl_X0_29 rfl rfl hd kk
theorem G_X6_194 (F : Fx p s m args c D Y A cc nL RX6) (hd : decode cc pc = .ok (.getfield 194, 3)) (kk : GW p l e R s m args below meth c D A nL cells slots Q (wC Y q u) (pc + 3) lv (.ref (q 14) :: st)) : GW p l e R s m args below meth c D A nL cells slots Q (wC Y q u) pc lv (.ref (q 1) :: st) := g_get F lay_X0 1 rfl rfl 4 (by decide) fl_X6_194 rfl rfl hd kk
theorem G_X0_32 (F : Fx p s m args c D Y A cc nL RX0) (hd : decode cc pc = .ok (.getfield 32, 3)) (kk : GW p l e R s m args below meth c D A nL cells slots Q (wC Y q u) (pc + 3) lv (.ref (q 16) :: st)) : GW p l e R s m args below meth c D A nL cells slots Q (wC Y q u) pc lv (.ref (q 1) :: st) := g_get F lay_X0 1 rfl rfl 5 (by decide) fl_X0_32 rfl rfl hd kk
theorem G_X6_210 (F : Fx p s m args c D Y A cc nL RX6) (hd : decode cc pc = .ok (.getfield 210, 3)) (kk : GW p l e R s m args below meth c D A nL cells slots Q (wC Y q u) (pc + 3) lv (.ref (q 16) :: st)) : GW p l e R s m args below meth c D A nL cells slots Q (wC Y q u) pc lv (.ref (q 1) :: st) := g_get F lay_X0 1 rfl rfl 5 (by decide) fl_X6_210 rfl rfl hd kk
theorem G_X0_35 (F : Fx p s m args c D Y A cc nL RX0) (hd : decode cc pc = .ok (.getfield 35, 3)) (kk : GW p l e R s m args below meth c D A nL cells slots Q (wC Y q u) (pc + 3) lv (.ref (q 18) :: st)) : GW p l e R s m args below meth c D A nL cells slots Q (wC Y q u) pc lv (.ref (q 1) :: st) := g_get F lay_X0 1 rfl rfl 6 (by decide) fl_X0_35 rfl rfl hd kk
theorem G_X6_261 (F : Fx p s m args c D Y A cc nL RX6) (hd : decode cc pc = .ok (.getfield 261, 3)) (kk : GW p l e R s m args below meth c D A nL cells slots Q (wC Y q u) (pc + 3) lv (.ref (q 18) :: st)) : GW p l e R s m args below meth c D A nL cells slots Q (wC Y q u) pc lv (.ref (q 1) :: st) := g_get F lay_X0 1 rfl rfl 6 (by decide) fl_X6_261 rfl rfl hd kk
theorem G_X0_38 (F : Fx p s m args c D Y A cc nL RX0) (hd : decode cc pc = .ok (.getfield 38, 3)) (kk : GW p l e R s m args below meth c D A nL cells slots Q (wC Y q u) (pc + 3) lv (.int (u.2 6) :: st)) : GW p l e R s m args below meth c D A nL cells slots Q (wC Y q u) pc lv (.ref (q 1) :: st) := g_get F lay_X0 1 rfl rfl 7 (by decide) fl_X0_38 rfl rfl hd kk
theorem P_X0_38 {x : Int32} (F : Fx p s m args c D Y A cc nL RX0) (hd : decode cc pc = .ok (.putfield 38, 3)) (kk : GW p l e R s m args below meth c D A nL cells slots Q (wC Y q (sS u 6 x)) (pc + 3) lv (st)) : GW p l e R s m args below meth c D A nL cells slots Q (wC Y q u) pc lv (.int x :: .ref (q 1) :: st) := g_put F lay_X0 tyX0 tyX0_ok nmX0 1 rfl rfl 7 (by decide) fl_X0_38 rfl rfl (ty := .int) rfl rfl rfl (Nat.le_of_ble_eq_true rfl) hd (ws' := wC Y q (sS u 6 x)) rfl kk
theorem G_X6_169 (F : Fx p s m args c D Y A cc nL RX6) (hd : decode cc pc = .ok (.getfield 169, 3)) (kk : GW p l e R s m args below meth c D A nL cells slots Q (wC Y q u) (pc + 3) lv (.int (u.2 6) :: st)) : GW p l e R s m args below meth c D A nL cells slots Q (wC Y q u) pc lv (.ref (q 1) :: st) := g_get F lay_X0 1 rfl rfl 7 (by decide) fl_X6_169 rfl rfl hd kk
theorem P_X6_169 {x : Int32} (F : Fx p s m args c D Y A cc nL RX6) (hd : decode cc pc = .ok (.putfield 169, 3)) (kk : GW p l e R s m args below meth c D A nL cells slots Q (wC Y q (sS u 6 x)) (pc + 3) lv (st)) : GW p l e R s m args below meth c D A nL cells slots Q (wC Y q u) pc lv (.int x :: .ref (q 1) :: st) := g_put F lay_X0 tyX0 tyX0_ok nmX0 1 rfl rfl 7 (by decide) fl_X6_169 rfl rfl (ty := .int) rfl rfl rfl (Nat.le_of_ble_eq_true rfl) hd (ws' := wC Y q (sS u 6 x)) rfl kk
theorem G_X5_14 (F : Fx p s m args c D Y A cc nL RX5) (hd : decode cc pc = .ok (.getfield 14, 3)) (kk : GW p l e R s m args below meth c D A nL cells slots Q (wC Y q u) (pc + 3) lv (.ref (q 20) :: st)) : GW p l e R s m args below meth c D A nL cells slots Q (wC Y q u) pc lv (.ref (q 2) :: st) := g_get F lay_X5 2 rfl rfl 0 (by decide) fl_X5_14 rfl rfl hd kk
theorem G_X6_312 (F : Fx p s m args c D Y A cc nL RX6) (hd : decode cc pc = .ok (.getfield 312, 3)) (kk : GW p l e R s m args below meth c D A nL cells slots Q (wC Y q u) (pc + 3) lv (.ref (q 20) :: st)) : GW p l e R s m args below meth c D A nL cells slots Q (wC Y q u) pc lv (.ref (q 2) :: st) := g_get F lay_X5 2 rfl rfl 0 (by decide) fl_X6_312 rfl rfl hd kk
theorem G_X5_20 (F : Fx p s m args c D Y A cc nL RX5) (hd : decode cc pc = .ok (.getfield 20, 3)) (kk : GW p l e R s m args below meth c D A nL cells slots Q (wC Y q u) (pc + 3) lv (.ref (q 22) :: st)) : GW p l e R s m args below meth c D A nL cells slots Q (wC Y q u) pc lv (.ref (q 2) :: st) := g_get F lay_X5 2 rfl rfl 1 (by decide) fl_X5_20 rfl rfl hd kk
theorem G_X4_14 (F : Fx p s m args c D Y A cc nL RX4) (hd : decode cc pc = .ok (.getfield 14, 3)) (kk : GW p l e R s m args below meth c D A nL cells slots Q (wC Y q u) (pc + 3) lv (.ref (q 24) :: st)) : GW p l e R s m args below meth c D A nL cells slots Q (wC Y q u) pc lv (.ref (q 3) :: st) := g_get F lay_X4 3 rfl rfl 0 (by decide) fl_X4_14 rfl rfl hd kk
theorem G_X6_369 (F : Fx p s m args c D Y A cc nL RX6) (hd : decode cc pc = .ok (.getfield 369, 3)) (kk : GW p l e R s m args below meth c D A nL cells slots Q (wC Y q u) (pc + 3) lv (.ref (q 24) :: st)) : GW p l e R s m args below meth c D A nL cells slots Q (wC Y q u) pc lv (.ref (q 3) :: st) := g_get F lay_X4 3 rfl rfl 0 (by decide) fl_X6_369 rfl rfl hd kk
theorem G_X4_20 (F : Fx p s m args c D Y A cc nL RX4) (hd : decode cc pc = .ok (.getfield 20, 3)) (kk : GW p l e R s m args below meth c D A nL cells slots Q (wC Y q u) (pc + 3) lv (.ref (q 26) :: st)) : GW p l e R s m args below meth c D A nL cells slots Q (wC Y q u) pc lv (.ref (q 3) :: st) := g_get F lay_X4 3 rfl rfl 1 (by decide) fl_X4_20 rfl rfl hd kk
theorem G_X6_126 (F : Fx p s m args c D Y A cc nL RX6) (hd : decode cc pc = .ok (.getfield 126, 3)) (kk : GW p l e R s m args below meth c D A nL cells slots Q (wC Y q u) (pc + 3) lv (.ref (q 26) :: st)) : GW p l e R s m args below meth c D A nL cells slots Q (wC Y q u) pc lv (.ref (q 3) :: st) := g_get F lay_X4 3 rfl rfl 1 (by decide) fl_X6_126 rfl rfl hd kk
theorem G_X4_23 (F : Fx p s m args c D Y A cc nL RX4) (hd : decode cc pc = .ok (.getfield 23, 3)) (kk : GW p l e R s m args below meth c D A nL cells slots Q (wC Y q u) (pc + 3) lv (.ref (q 28) :: st)) : GW p l e R s m args below meth c D A nL cells slots Q (wC Y q u) pc lv (.ref (q 3) :: st) := g_get F lay_X4 3 rfl rfl 2 (by decide) fl_X4_23 rfl rfl hd kk
theorem G_X6_112 (F : Fx p s m args c D Y A cc nL RX6) (hd : decode cc pc = .ok (.getfield 112, 3)) (kk : GW p l e R s m args below meth c D A nL cells slots Q (wC Y q u) (pc + 3) lv (.ref (q 28) :: st)) : GW p l e R s m args below meth c D A nL cells slots Q (wC Y q u) pc lv (.ref (q 3) :: st) := g_get F lay_X4 3 rfl rfl 2 (by decide) fl_X6_112 rfl rfl hd kk
theorem G_X4_26 (F : Fx p s m args c D Y A cc nL RX4) (hd : decode cc pc = .ok (.getfield 26, 3)) (kk : GW p l e R s m args below meth c D A nL cells slots Q (wC Y q u) (pc + 3) lv (.ref (q 30) :: st)) : GW p l e R s m args below meth c D A nL cells slots Q (wC Y q u) pc lv (.ref (q 3) :: st) := g_get F lay_X4 3 rfl rfl 3 (by decide) fl_X4_26 rfl rfl hd kk
theorem G_X6_118 (F : Fx p s m args c D Y A cc nL RX6) (hd : decode cc pc = .ok (.getfield 118, 3)) (kk : GW p l e R s m args below meth c D A nL cells slots Q (wC Y q u) (pc + 3) lv (.ref (q 30) :: st)) : GW p l e R s m args below meth c D A nL cells slots Q (wC Y q u) pc lv (.ref (q 3) :: st) := g_get F lay_X4 3 rfl rfl 3 (by decide) fl_X6_118 rfl rfl hd kk
theorem G_X4_64 (F : Fx p s m args c D Y A cc nL RX4) (hd : decode cc pc = .ok (.getfield 64, 3)) (kk : GW p l e R s m args below meth c D A nL cells slots Q (wC Y q u) (pc + 3) lv (.int (u.2 7) :: st)) : GW p l e R s m args below meth c D A nL cells slots Q (wC Y q u) pc lv (.ref (q 3) :: st) := g_get F lay_X4 3 rfl rfl 4 (by decide) fl_X4_64 rfl rfl hd kk
theorem P_X4_64 {x : Int32} (F : Fx p s m args c D Y A cc nL RX4) (hd : decode cc pc = .ok (.putfield 64, 3)) (kk : GW p l e R s m args below meth c D A nL cells slots Q (wC Y q (sS u 7 x)) (pc + 3) lv (st)) : GW p l e R s m args below meth c D A nL cells slots Q (wC Y q u) pc lv (.int x :: .ref (q 3) :: st) := g_put F lay_X4 tyX4 tyX4_ok nmX4 3 rfl rfl 4 (by decide) fl_X4_64 rfl rfl (ty := .int) rfl rfl rfl (Nat.le_of_ble_eq_true rfl) hd (ws' := wC Y q (sS u 7 x)) rfl kk
theorem G_X6_344 (F : Fx p s m args c D Y A cc nL RX6) (hd : decode cc pc = .ok (.getfield 344, 3)) (kk : GW p l e R s m args below meth c D A nL cells slots Q (wC Y q u) (pc + 3) lv (.int (u.2 7) :: st)) : GW p l e R s m args below meth c D A nL cells slots Q (wC Y q u) pc lv (.ref (q 3) :: st) := g_get F lay_X4 3 rfl rfl 4 (by decide) fl_X6_344 rfl rfl hd kk
theorem P_X6_344 {x : Int32} (F : Fx p s m args c D Y A cc nL RX6) (hd : decode cc pc = .ok (.putfield 344, 3)) (kk : GW p l e R s m args below meth c D A nL cells slots Q (wC Y q (sS u 7 x)) (pc + 3) lv (st)) : GW p l e R s m args below meth c D A nL cells slots Q (wC Y q u) pc lv (.int x :: .ref (q 3) :: st) := g_put F lay_X4 tyX4 tyX4_ok nmX4 3 rfl rfl 4 (by decide) fl_X6_344 rfl rfl (ty := .int) rfl rfl rfl (Nat.le_of_ble_eq_true rfl) hd (ws' := wC Y q (sS u 7 x)) rfl kk
theorem G_X4_29 (F : Fx p s m args c D Y A cc nL RX4) (hd : decode cc pc = .ok (.getfield 29, 3)) (kk : GW p l e R s m args below meth c D A nL cells slots Q (wC Y q u) (pc + 3) lv (.ref (q 32) :: st)) : GW p l e R s m args below meth c D A nL cells slots Q (wC Y q u) pc lv (.ref (q 3) :: st) := g_get F lay_X4 3 rfl rfl 5 (by decide) fl_X4_29 rfl rfl hd kk
theorem G_X4_32 (F : Fx p s m args c D Y A cc nL RX4) (hd : decode cc pc = .ok (.getfield 32, 3)) (kk : GW p l e R s m args below meth c D A nL cells slots Q (wC Y q u) (pc + 3) lv (.ref (q 34) :: st)) : GW p l e R s m args below meth c D A nL cells slots Q (wC Y q u) pc lv (.ref (q 3) :: st) := g_get F lay_X4 3 rfl rfl 6 (by decide) fl_X4_32 rfl rfl hd kk
theorem G_X2_14 (F : Fx p s m args c D Y A cc nL RX2) (hd : decode cc pc = .ok (.getfield 14, 3)) (kk : GW p l e R s m args below meth c D A nL cells slots Q (wC Y q u) (pc + 3) lv (.ref (q 36) :: st)) : GW p l e R s m args below meth c D A nL cells slots Q (wC Y q u) pc lv (.ref (q 4) :: st) := g_get F lay_X2 4 rfl rfl 0 (by decide) fl_X2_14 rfl rfl hd kk
theorem G_X6_351 (F : Fx p s m args c D Y A cc nL RX6) (hd : decode cc pc = .ok (.getfield 351, 3)) (kk : GW p l e R s m args below meth c D A nL cells slots Q (wC Y q u) (pc + 3) lv (.ref (q 36) :: st)) : GW p l e R s m args below meth c D A nL cells slots Q (wC Y q u) pc lv (.ref (q 4) :: st) := g_get F lay_X2 4 rfl rfl 0 (by decide) fl_X6_351 rfl rfl hd kk
theorem G_X2_20 (F : Fx p s m args c D Y A cc nL RX2) (hd : decode cc pc = .ok (.getfield 20, 3)) (kk : GW p l e R s m args below meth c D A nL cells slots Q (wC Y q u) (pc + 3) lv (.ref (q 38) :: st)) : GW p l e R s m args below meth c D A nL cells slots Q (wC Y q u) pc lv (.ref (q 4) :: st) := g_get F lay_X2 4 rfl rfl 1 (by decide) fl_X2_20 rfl rfl hd kk
theorem G_X6_347 (F : Fx p s m args c D Y A cc nL RX6) (hd : decode cc pc = .ok (.getfield 347, 3)) (kk : GW p l e R s m args below meth c D A nL cells slots Q (wC Y q u) (pc + 3) lv (.ref (q 38) :: st)) : GW p l e R s m args below meth c D A nL cells slots Q (wC Y q u) pc lv (.ref (q 4) :: st) := g_get F lay_X2 4 rfl rfl 1 (by decide) fl_X6_347 rfl rfl hd kk
theorem G_X2_23 (F : Fx p s m args c D Y A cc nL RX2) (hd : decode cc pc = .ok (.getfield 23, 3)) (kk : GW p l e R s m args below meth c D A nL cells slots Q (wC Y q u) (pc + 3) lv (.ref (q 40) :: st)) : GW p l e R s m args below meth c D A nL cells slots Q (wC Y q u) pc lv (.ref (q 4) :: st) := g_get F lay_X2 4 rfl rfl 2 (by decide) fl_X2_23 rfl rfl hd kk
theorem G_X6_350 (F : Fx p s m args c D Y A cc nL RX6) (hd : decode cc pc = .ok (.getfield 350, 3)) (kk : GW p l e R s m args below meth c D A nL cells slots Q (wC Y q u) (pc + 3) lv (.ref (q 40) :: st)) : GW p l e R s m args below meth c D A nL cells slots Q (wC Y q u) pc lv (.ref (q 4) :: st) := g_get F lay_X2 4 rfl rfl 2 (by decide) fl_X6_350 rfl rfl hd kk
theorem G_X2_26 (F : Fx p s m args c D Y A cc nL RX2) (hd : decode cc pc = .ok (.getfield 26, 3)) (kk : GW p l e R s m args below meth c D A nL cells slots Q (wC Y q u) (pc + 3) lv (.int (u.2 8) :: st)) : GW p l e R s m args below meth c D A nL cells slots Q (wC Y q u) pc lv (.ref (q 4) :: st) := g_get F lay_X2 4 rfl rfl 3 (by decide) fl_X2_26 rfl rfl hd kk
theorem P_X2_26 {x : Int32} (F : Fx p s m args c D Y A cc nL RX2) (hd : decode cc pc = .ok (.putfield 26, 3)) (kk : GW p l e R s m args below meth c D A nL cells slots Q (wC Y q (sS u 8 x)) (pc + 3) lv (st)) : GW p l e R s m args below meth c D A nL cells slots Q (wC Y q u) pc lv (.int x :: .ref (q 4) :: st) := g_put F lay_X2 tyX2 tyX2_ok nmX2 4 rfl rfl 3 (by decide) fl_X2_26 rfl rfl (ty := .int) rfl rfl rfl (Nat.le_of_ble_eq_true rfl) hd (ws' := wC Y q (sS u 8 x)) rfl kk
theorem G_X6_218 (F : Fx p s m args c D Y A cc nL RX6) (hd : decode cc pc = .ok (.getfield 218, 3)) (kk : GW p l e R s m args below meth c D A nL cells slots Q (wC Y q u) (pc + 3) lv (.int (u.2 8) :: st)) : GW p l e R s m args below meth c D A nL cells slots Q (wC Y q u) pc lv (.ref (q 4) :: st) := g_get F lay_X2 4 rfl rfl 3 (by decide) fl_X6_218 rfl rfl hd kk
theorem P_X6_218 {x : Int32} (F : Fx p s m args c D Y A cc nL RX6) (hd : decode cc pc = .ok (.putfield 218, 3)) (kk : GW p l e R s m args below meth c D A nL cells slots Q (wC Y q (sS u 8 x)) (pc + 3) lv (st)) : GW p l e R s m args below meth c D A nL cells slots Q (wC Y q u) pc lv (.int x :: .ref (q 4) :: st) := g_put F lay_X2 tyX2 tyX2_ok nmX2 4 rfl rfl 3 (by decide) fl_X6_218 rfl rfl (ty := .int) rfl rfl rfl (Nat.le_of_ble_eq_true rfl) hd (ws' := wC Y q (sS u 8 x)) rfl kk
theorem G_X1_14 (F : Fx p s m args c D Y A cc nL RX1) (hd : decode cc pc = .ok (.getfield 14, 3)) (kk : GW p l e R s m args below meth c D A nL cells slots Q (wC Y q u) (pc + 3) lv (.ref (q 42) :: st)) : GW p l e R s m args below meth c D A nL cells slots Q (wC Y q u) pc lv (.ref (q 5) :: st) := g_get F lay_X1 5 rfl rfl 0 (by decide) fl_X1_14 rfl rfl hd kk
theorem G_X6_147 (F : Fx p s m args c D Y A cc nL RX6) (hd : decode cc pc = .ok (.getfield 147, 3)) (kk : GW p l e R s m args below meth c D A nL cells slots Q (wC Y q u) (pc + 3) lv (.ref (q 42) :: st)) : GW p l e R s m args below meth c D A nL cells slots Q (wC Y q u) pc lv (.ref (q 5) :: st) := g_get F lay_X1 5 rfl rfl 0 (by decide) fl_X6_147 rfl rfl hd kk
theorem G_X1_20 (F : Fx p s m args c D Y A cc nL RX1) (hd : decode cc pc = .ok (.getfield 20, 3)) (kk : GW p l e R s m args below meth c D A nL cells slots Q (wC Y q u) (pc + 3) lv (.ref (q 44) :: st)) : GW p l e R s m args below meth c D A nL cells slots Q (wC Y q u) pc lv (.ref (q 5) :: st) := g_get F lay_X1 5 rfl rfl 1 (by decide) fl_X1_20 rfl rfl hd kk
theorem G_X6_150 (F : Fx p s m args c D Y A cc nL RX6) (hd : decode cc pc = .ok (.getfield 150, 3)) (kk : GW p l e R s m args below meth c D A nL cells slots Q (wC Y q u) (pc + 3) lv (.ref (q 44) :: st)) : GW p l e R s m args below meth c D A nL cells slots Q (wC Y q u) pc lv (.ref (q 5) :: st) := g_get F lay_X1 5 rfl rfl 1 (by decide) fl_X6_150 rfl rfl hd kk
theorem G_X1_23 (F : Fx p s m args c D Y A cc nL RX1) (hd : decode cc pc = .ok (.getfield 23, 3)) (kk : GW p l e R s m args below meth c D A nL cells slots Q (wC Y q u) (pc + 3) lv (.ref (q 46) :: st)) : GW p l e R s m args below meth c D A nL cells slots Q (wC Y q u) pc lv (.ref (q 5) :: st) := g_get F lay_X1 5 rfl rfl 2 (by decide) fl_X1_23 rfl rfl hd kk
theorem G_X6_153 (F : Fx p s m args c D Y A cc nL RX6) (hd : decode cc pc = .ok (.getfield 153, 3)) (kk : GW p l e R s m args below meth c D A nL cells slots Q (wC Y q u) (pc + 3) lv (.ref (q 46) :: st)) : GW p l e R s m args below meth c D A nL cells slots Q (wC Y q u) pc lv (.ref (q 5) :: st) := g_get F lay_X1 5 rfl rfl 2 (by decide) fl_X6_153 rfl rfl hd kk
theorem G_X6_10 (F : Fx p s m args c D Y A cc nL RX6) (hd : decode cc pc = .ok (.getfield 10, 3)) (kk : GW p l e R s m args below meth c D A nL cells slots Q (wC Y q u) (pc + 3) lv (.ref (q 1) :: st)) : GW p l e R s m args below meth c D A nL cells slots Q (wC Y q u) pc lv (.ref (q 0) :: st) := g_get F lay_X6 0 rfl rfl 0 (by decide) fl_X6_10 rfl rfl hd kk
theorem G_X6_19 (F : Fx p s m args c D Y A cc nL RX6) (hd : decode cc pc = .ok (.getfield 19, 3)) (kk : GW p l e R s m args below meth c D A nL cells slots Q (wC Y q u) (pc + 3) lv (.ref (q 2) :: st)) : GW p l e R s m args below meth c D A nL cells slots Q (wC Y q u) pc lv (.ref (q 0) :: st) := g_get F lay_X6 0 rfl rfl 1 (by decide) fl_X6_19 rfl rfl hd kk
theorem G_X6_26 (F : Fx p s m args c D Y A cc nL RX6) (hd : decode cc pc = .ok (.getfield 26, 3)) (kk : GW p l e R s m args below meth c D A nL cells slots Q (wC Y q u) (pc + 3) lv (.ref (q 3) :: st)) : GW p l e R s m args below meth c D A nL cells slots Q (wC Y q u) pc lv (.ref (q 0) :: st) := g_get F lay_X6 0 rfl rfl 2 (by decide) fl_X6_26 rfl rfl hd kk
theorem G_X6_33 (F : Fx p s m args c D Y A cc nL RX6) (hd : decode cc pc = .ok (.getfield 33, 3)) (kk : GW p l e R s m args below meth c D A nL cells slots Q (wC Y q u) (pc + 3) lv (.ref (q 4) :: st)) : GW p l e R s m args below meth c D A nL cells slots Q (wC Y q u) pc lv (.ref (q 0) :: st) := g_get F lay_X6 0 rfl rfl 3 (by decide) fl_X6_33 rfl rfl hd kk
theorem G_X6_40 (F : Fx p s m args c D Y A cc nL RX6) (hd : decode cc pc = .ok (.getfield 40, 3)) (kk : GW p l e R s m args below meth c D A nL cells slots Q (wC Y q u) (pc + 3) lv (.ref (q 5) :: st)) : GW p l e R s m args below meth c D A nL cells slots Q (wC Y q u) pc lv (.ref (q 0) :: st) := g_get F lay_X6 0 rfl rfl 4 (by decide) fl_X6_40 rfl rfl hd kk
theorem G_X6_49 (F : Fx p s m args c D Y A cc nL RX6) (hd : decode cc pc = .ok (.getfield 49, 3)) (kk : GW p l e R s m args below meth c D A nL cells slots Q (wC Y q u) (pc + 3) lv (.ref (q 48) :: st)) : GW p l e R s m args below meth c D A nL cells slots Q (wC Y q u) pc lv (.ref (q 0) :: st) := g_get F lay_X6 0 rfl rfl 5 (by decide) fl_X6_49 rfl rfl hd kk
theorem G_X6_129 (F : Fx p s m args c D Y A cc nL RX6) (hd : decode cc pc = .ok (.getfield 129, 3)) (kk : GW p l e R s m args below meth c D A nL cells slots Q (wC Y q u) (pc + 3) lv (.int (u.2 0) :: st)) : GW p l e R s m args below meth c D A nL cells slots Q (wC Y q u) pc lv (.ref (q 0) :: st) := g_get F lay_X6 0 rfl rfl 6 (by decide) fl_X6_129 rfl rfl hd kk
theorem P_X6_129 {x : Int32} (F : Fx p s m args c D Y A cc nL RX6) (hd : decode cc pc = .ok (.putfield 129, 3)) (kk : GW p l e R s m args below meth c D A nL cells slots Q (wC Y q (sS u 0 x)) (pc + 3) lv (st)) : GW p l e R s m args below meth c D A nL cells slots Q (wC Y q u) pc lv (.int x :: .ref (q 0) :: st) := g_put F lay_X6 tyX6 tyX6_ok nmX6 0 rfl rfl 6 (by decide) fl_X6_129 rfl rfl (ty := .int) rfl rfl rfl (Nat.le_of_ble_eq_true rfl) hd (ws' := wC Y q (sS u 0 x)) rfl kk
theorem G_X6_256 (F : Fx p s m args c D Y A cc nL RX6) (hd : decode cc pc = .ok (.getfield 256, 3)) (kk : GW p l e R s m args below meth c D A nL cells slots Q (wC Y q u) (pc + 3) lv (.int (u.2 1) :: st)) : GW p l e R s m args below meth c D A nL cells slots Q (wC Y q u) pc lv (.ref (q 0) :: st) := g_get F lay_X6 0 rfl rfl 7 (by decide) fl_X6_256 rfl rfl hd kk
theorem P_X6_256 {x : Int32} (F : Fx p s m args c D Y A cc nL RX6) (hd : decode cc pc = .ok (.putfield 256, 3)) (kk : GW p l e R s m args below meth c D A nL cells slots Q (wC Y q (sS u 1 x)) (pc + 3) lv (st)) : GW p l e R s m args below meth c D A nL cells slots Q (wC Y q u) pc lv (.int x :: .ref (q 0) :: st) := g_put F lay_X6 tyX6 tyX6_ok nmX6 0 rfl rfl 7 (by decide) fl_X6_256 rfl rfl (ty := .int) rfl rfl rfl (Nat.le_of_ble_eq_true rfl) hd (ws' := wC Y q (sS u 1 x)) rfl kk
theorem G_X6_238 (F : Fx p s m args c D Y A cc nL RX6) (hd : decode cc pc = .ok (.getfield 238, 3)) (kk : GW p l e R s m args below meth c D A nL cells slots Q (wC Y q u) (pc + 3) lv (.int (u.2 2) :: st)) : GW p l e R s m args below meth c D A nL cells slots Q (wC Y q u) pc lv (.ref (q 0) :: st) := g_get F lay_X6 0 rfl rfl 8 (by decide) fl_X6_238 rfl rfl hd kk
theorem P_X6_238 {x : Int32} (F : Fx p s m args c D Y A cc nL RX6) (hd : decode cc pc = .ok (.putfield 238, 3)) (kk : GW p l e R s m args below meth c D A nL cells slots Q (wC Y q (sS u 2 x)) (pc + 3) lv (st)) : GW p l e R s m args below meth c D A nL cells slots Q (wC Y q u) pc lv (.int x :: .ref (q 0) :: st) := g_put F lay_X6 tyX6 tyX6_ok nmX6 0 rfl rfl 8 (by decide) fl_X6_238 rfl rfl (ty := .int) rfl rfl rfl (Nat.le_of_ble_eq_true rfl) hd (ws' := wC Y q (sS u 2 x)) rfl kk
theorem G_X6_53 (F : Fx p s m args c D Y A cc nL RX6) (hd : decode cc pc = .ok (.getfield 53, 3)) (kk : GW p l e R s m args below meth c D A nL cells slots Q (wC Y q u) (pc + 3) lv (.int (u.2 3) :: st)) : GW p l e R s m args below meth c D A nL cells slots Q (wC Y q u) pc lv (.ref (q 0) :: st) := g_get F lay_X6 0 rfl rfl 9 (by decide) fl_X6_53 rfl rfl hd kk
theorem P_X6_53 {x : Int32} (F : Fx p s m args c D Y A cc nL RX6) (hd : decode cc pc = .ok (.putfield 53, 3)) (kk : GW p l e R s m args below meth c D A nL cells slots Q (wC Y q (sS u 3 x)) (pc + 3) lv (st)) : GW p l e R s m args below meth c D A nL cells slots Q (wC Y q u) pc lv (.int x :: .ref (q 0) :: st) := g_put F lay_X6 tyX6 tyX6_ok nmX6 0 rfl rfl 9 (by decide) fl_X6_53 rfl rfl (ty := .int) rfl rfl rfl (Nat.le_of_ble_eq_true rfl) hd (ws' := wC Y q (sS u 3 x)) rfl kk
theorem G_X6_57 (F : Fx p s m args c D Y A cc nL RX6) (hd : decode cc pc = .ok (.getfield 57, 3)) (kk : GW p l e R s m args below meth c D A nL cells slots Q (wC Y q u) (pc + 3) lv (.int (u.2 4) :: st)) : GW p l e R s m args below meth c D A nL cells slots Q (wC Y q u) pc lv (.ref (q 0) :: st) := g_get F lay_X6 0 rfl rfl 10 (by decide) fl_X6_57 rfl rfl hd kk
theorem P_X6_57 {x : Int32} (F : Fx p s m args c D Y A cc nL RX6) (hd : decode cc pc = .ok (.putfield 57, 3)) (kk : GW p l e R s m args below meth c D A nL cells slots Q (wC Y q (sS u 4 x)) (pc + 3) lv (st)) : GW p l e R s m args below meth c D A nL cells slots Q (wC Y q u) pc lv (.int x :: .ref (q 0) :: st) := g_put F lay_X6 tyX6 tyX6_ok nmX6 0 rfl rfl 10 (by decide) fl_X6_57 rfl rfl (ty := .int) rfl rfl rfl (Nat.le_of_ble_eq_true rfl) hd (ws' := wC Y q (sS u 4 x)) rfl kk
theorem G_X6_60 (F : Fx p s m args c D Y A cc nL RX6) (hd : decode cc pc = .ok (.getfield 60, 3)) (kk : GW p l e R s m args below meth c D A nL cells slots Q (wC Y q u) (pc + 3) lv (.int (u.2 5) :: st)) : GW p l e R s m args below meth c D A nL cells slots Q (wC Y q u) pc lv (.ref (q 0) :: st) := g_get F lay_X6 0 rfl rfl 11 (by decide) fl_X6_60 rfl rfl hd kk
theorem P_X6_60 {x : Int32} (F : Fx p s m args c D Y A cc nL RX6) (hd : decode cc pc = .ok (.putfield 60, 3)) (kk : GW p l e R s m args below meth c D A nL cells slots Q (wC Y q (sS u 5 x)) (pc + 3) lv (st)) : GW p l e R s m args below meth c D A nL cells slots Q (wC Y q u) pc lv (.int x :: .ref (q 0) :: st) := g_put F lay_X6 tyX6 tyX6_ok nmX6 0 rfl rfl 11 (by decide) fl_X6_60 rfl rfl (ty := .int) rfl rfl rfl (Nat.le_of_ble_eq_true rfl) hd (ws' := wC Y q (sS u 5 x)) rfl kk
theorem G_X7_87 (F : Fx p s m args c D Y A cc nL RX7) (hd : decode cc pc = .ok (.getfield 87, 3)) (kk : GW p l e R s m args below meth c D A nL cells slots Q (wM Y q u) (pc + 3) lv (.int (u.2 0) :: st)) : GW p l e R s m args below meth c D A nL cells slots Q (wM Y q u) pc lv (.ref (q 0) :: st) := g_get F lay_X7 0 rfl rfl 0 (by decide) fl_X7_87 rfl rfl hd kk
theorem P_X7_87 {x : Int32} (F : Fx p s m args c D Y A cc nL RX7) (hd : decode cc pc = .ok (.putfield 87, 3)) (kk : GW p l e R s m args below meth c D A nL cells slots Q (wM Y q (sS u 0 x)) (pc + 3) lv (st)) : GW p l e R s m args below meth c D A nL cells slots Q (wM Y q u) pc lv (.int x :: .ref (q 0) :: st) := g_put F lay_X7 tyX7 tyX7_ok nmX7 0 rfl rfl 0 (by decide) fl_X7_87 rfl rfl (ty := .int) rfl rfl rfl (Nat.le_of_ble_eq_true rfl) hd (ws' := wM Y q (sS u 0 x)) rfl kk
theorem G_X7_7 (F : Fx p s m args c D Y A cc nL RX7) (hd : decode cc pc = .ok (.getfield 7, 3)) (kk : GW p l e R s m args below meth c D A nL cells slots Q (wM Y q u) (pc + 3) lv (.ref (q 1) :: st)) : GW p l e R s m args below meth c D A nL cells slots Q (wM Y q u) pc lv (.ref (q 0) :: st) := g_get F lay_X7 0 rfl rfl 1 (by decide) fl_X7_7 rfl rfl hd kk
theorem G_X7_13 (F : Fx p s m args c D Y A cc nL RX7) (hd : decode cc pc = .ok (.getfield 13, 3)) (kk : GW p l e R s m args below meth c D A nL cells slots Q (wM Y q u) (pc + 3) lv (.ref (q 2) :: st)) : GW p l e R s m args below meth c D A nL cells slots Q (wM Y q u) pc lv (.ref (q 0) :: st) := g_get F lay_X7 0 rfl rfl 2 (by decide) fl_X7_13 rfl rfl hd kk
theorem G_X7_17 (F : Fx p s m args c D Y A cc nL RX7) (hd : decode cc pc = .ok (.getfield 17, 3)) (kk : GW p l e R s m args below meth c D A nL cells slots Q (wM Y q u) (pc + 3) lv (.ref (q 3) :: st)) : GW p l e R s m args below meth c D A nL cells slots Q (wM Y q u) pc lv (.ref (q 0) :: st) := g_get F lay_X7 0 rfl rfl 3 (by decide) fl_X7_17 rfl rfl hd kk
theorem G_X7_20 (F : Fx p s m args c D Y A cc nL RX7) (hd : decode cc pc = .ok (.getfield 20, 3)) (kk : GW p l e R s m args below meth c D A nL cells slots Q (wM Y q u) (pc + 3) lv (.ref (q 4) :: st)) : GW p l e R s m args below meth c D A nL cells slots Q (wM Y q u) pc lv (.ref (q 0) :: st) := g_get F lay_X7 0 rfl rfl 4 (by decide) fl_X7_20 rfl rfl hd kk
theorem G_X7_23 (F : Fx p s m args c D Y A cc nL RX7) (hd : decode cc pc = .ok (.getfield 23, 3)) (kk : GW p l e R s m args below meth c D A nL cells slots Q (wM Y q u) (pc + 3) lv (.ref (q 5) :: st)) : GW p l e R s m args below meth c D A nL cells slots Q (wM Y q u) pc lv (.ref (q 0) :: st) := g_get F lay_X7 0 rfl rfl 5 (by decide) fl_X7_23 rfl rfl hd kk
theorem G_X7_26 (F : Fx p s m args c D Y A cc nL RX7) (hd : decode cc pc = .ok (.getfield 26, 3)) (kk : GW p l e R s m args below meth c D A nL cells slots Q (wM Y q u) (pc + 3) lv (.int (u.2 1) :: st)) : GW p l e R s m args below meth c D A nL cells slots Q (wM Y q u) pc lv (.ref (q 0) :: st) := g_get F lay_X7 0 rfl rfl 6 (by decide) fl_X7_26 rfl rfl hd kk
theorem P_X7_26 {x : Int32} (F : Fx p s m args c D Y A cc nL RX7) (hd : decode cc pc = .ok (.putfield 26, 3)) (kk : GW p l e R s m args below meth c D A nL cells slots Q (wM Y q (sS u 1 x)) (pc + 3) lv (st)) : GW p l e R s m args below meth c D A nL cells slots Q (wM Y q u) pc lv (.int x :: .ref (q 0) :: st) := g_put F lay_X7 tyX7 tyX7_ok nmX7 0 rfl rfl 6 (by decide) fl_X7_26 rfl rfl (ty := .int) rfl rfl rfl (Nat.le_of_ble_eq_true rfl) hd (ws' := wM Y q (sS u 1 x)) rfl kk
theorem G_X7_30 (F : Fx p s m args c D Y A cc nL RX7) (hd : decode cc pc = .ok (.getfield 30, 3)) (kk : GW p l e R s m args below meth c D A nL cells slots Q (wM Y q u) (pc + 3) lv (.int (u.2 2) :: st)) : GW p l e R s m args below meth c D A nL cells slots Q (wM Y q u) pc lv (.ref (q 0) :: st) := g_get F lay_X7 0 rfl rfl 7 (by decide) fl_X7_30 rfl rfl hd kk
theorem P_X7_30 {x : Int32} (F : Fx p s m args c D Y A cc nL RX7) (hd : decode cc pc = .ok (.putfield 30, 3)) (kk : GW p l e R s m args below meth c D A nL cells slots Q (wM Y q (sS u 2 x)) (pc + 3) lv (st)) : GW p l e R s m args below meth c D A nL cells slots Q (wM Y q u) pc lv (.int x :: .ref (q 0) :: st) := g_put F lay_X7 tyX7 tyX7_ok nmX7 0 rfl rfl 7 (by decide) fl_X7_30 rfl rfl (ty := .int) rfl rfl rfl (Nat.le_of_ble_eq_true rfl) hd (ws' := wM Y q (sS u 2 x)) rfl kk
theorem G_X7_33 (F : Fx p s m args c D Y A cc nL RX7) (hd : decode cc pc = .ok (.getfield 33, 3)) (kk : GW p l e R s m args below meth c D A nL cells slots Q (wM Y q u) (pc + 3) lv (.int (u.2 3) :: st)) : GW p l e R s m args below meth c D A nL cells slots Q (wM Y q u) pc lv (.ref (q 0) :: st) := g_get F lay_X7 0 rfl rfl 8 (by decide) fl_X7_33 rfl rfl hd kk
theorem P_X7_33 {x : Int32} (F : Fx p s m args c D Y A cc nL RX7) (hd : decode cc pc = .ok (.putfield 33, 3)) (kk : GW p l e R s m args below meth c D A nL cells slots Q (wM Y q (sS u 3 x)) (pc + 3) lv (st)) : GW p l e R s m args below meth c D A nL cells slots Q (wM Y q u) pc lv (.int x :: .ref (q 0) :: st) := g_put F lay_X7 tyX7 tyX7_ok nmX7 0 rfl rfl 8 (by decide) fl_X7_33 rfl rfl (ty := .int) rfl rfl rfl (Nat.le_of_ble_eq_true rfl) hd (ws' := wM Y q (sS u 3 x)) rfl kk
theorem G_X7_94 (F : Fx p s m args c D Y A cc nL RX7) (hd : decode cc pc = .ok (.getfield 94, 3)) (kk : GW p l e R s m args below meth c D A nL cells slots Q (wM Y q u) (pc + 3) lv (.int (u.2 4) :: st)) : GW p l e R s m args below meth c D A nL cells slots Q (wM Y q u) pc lv (.ref (q 0) :: st) := g_get F lay_X7 0 rfl rfl 9 (by decide) fl_X7_94 rfl rfl hd kk
theorem P_X7_94 {x : Int32} (F : Fx p s m args c D Y A cc nL RX7) (hd : decode cc pc = .ok (.putfield 94, 3)) (kk : GW p l e R s m args below meth c D A nL cells slots Q (wM Y q (sS u 4 x)) (pc + 3) lv (st)) : GW p l e R s m args below meth c D A nL cells slots Q (wM Y q u) pc lv (.int x :: .ref (q 0) :: st) := g_put F lay_X7 tyX7 tyX7_ok nmX7 0 rfl rfl 9 (by decide) fl_X7_94 rfl rfl (ty := .int) rfl rfl rfl (Nat.le_of_ble_eq_true rfl) hd (ws' := wM Y q (sS u 4 x)) rfl kk
theorem G_X7_36 (F : Fx p s m args c D Y A cc nL RX7) (hd : decode cc pc = .ok (.getfield 36, 3)) (kk : GW p l e R s m args below meth c D A nL cells slots Q (wM Y q u) (pc + 3) lv (.ref (q 6) :: st)) : GW p l e R s m args below meth c D A nL cells slots Q (wM Y q u) pc lv (.ref (q 0) :: st) := g_get F lay_X7 0 rfl rfl 10 (by decide) fl_X7_36 rfl rfl hd kk
theorem G_X7_39 (F : Fx p s m args c D Y A cc nL RX7) (hd : decode cc pc = .ok (.getfield 39, 3)) (kk : GW p l e R s m args below meth c D A nL cells slots Q (wM Y q u) (pc + 3) lv (.ref (q 7) :: st)) : GW p l e R s m args below meth c D A nL cells slots Q (wM Y q u) pc lv (.ref (q 0) :: st) := g_get F lay_X7 0 rfl rfl 11 (by decide) fl_X7_39 rfl rfl hd kk
theorem G_X7_42 (F : Fx p s m args c D Y A cc nL RX7) (hd : decode cc pc = .ok (.getfield 42, 3)) (kk : GW p l e R s m args below meth c D A nL cells slots Q (wM Y q u) (pc + 3) lv (.ref (q 8) :: st)) : GW p l e R s m args below meth c D A nL cells slots Q (wM Y q u) pc lv (.ref (q 0) :: st) := g_get F lay_X7 0 rfl rfl 12 (by decide) fl_X7_42 rfl rfl hd kk
theorem G_X7_45 (F : Fx p s m args c D Y A cc nL RX7) (hd : decode cc pc = .ok (.getfield 45, 3)) (kk : GW p l e R s m args below meth c D A nL cells slots Q (wM Y q u) (pc + 3) lv (.ref (q 9) :: st)) : GW p l e R s m args below meth c D A nL cells slots Q (wM Y q u) pc lv (.ref (q 0) :: st) := g_get F lay_X7 0 rfl rfl 13 (by decide) fl_X7_45 rfl rfl hd kk
theorem G_X7_48 (F : Fx p s m args c D Y A cc nL RX7) (hd : decode cc pc = .ok (.getfield 48, 3)) (kk : GW p l e R s m args below meth c D A nL cells slots Q (wM Y q u) (pc + 3) lv (.ref (q 10) :: st)) : GW p l e R s m args below meth c D A nL cells slots Q (wM Y q u) pc lv (.ref (q 0) :: st) := g_get F lay_X7 0 rfl rfl 14 (by decide) fl_X7_48 rfl rfl hd kk
theorem G_X7_51 (F : Fx p s m args c D Y A cc nL RX7) (hd : decode cc pc = .ok (.getfield 51, 3)) (kk : GW p l e R s m args below meth c D A nL cells slots Q (wM Y q u) (pc + 3) lv (.ref (q 11) :: st)) : GW p l e R s m args below meth c D A nL cells slots Q (wM Y q u) pc lv (.ref (q 0) :: st) := g_get F lay_X7 0 rfl rfl 15 (by decide) fl_X7_51 rfl rfl hd kk
theorem G_X7_54 (F : Fx p s m args c D Y A cc nL RX7) (hd : decode cc pc = .ok (.getfield 54, 3)) (kk : GW p l e R s m args below meth c D A nL cells slots Q (wM Y q u) (pc + 3) lv (.ref (q 12) :: st)) : GW p l e R s m args below meth c D A nL cells slots Q (wM Y q u) pc lv (.ref (q 0) :: st) := g_get F lay_X7 0 rfl rfl 16 (by decide) fl_X7_54 rfl rfl hd kk
theorem G_X7_57 (F : Fx p s m args c D Y A cc nL RX7) (hd : decode cc pc = .ok (.getfield 57, 3)) (kk : GW p l e R s m args below meth c D A nL cells slots Q (wM Y q u) (pc + 3) lv (.ref (q 13) :: st)) : GW p l e R s m args below meth c D A nL cells slots Q (wM Y q u) pc lv (.ref (q 0) :: st) := g_get F lay_X7 0 rfl rfl 17 (by decide) fl_X7_57 rfl rfl hd kk
theorem G_X7_60 (F : Fx p s m args c D Y A cc nL RX7) (hd : decode cc pc = .ok (.getfield 60, 3)) (kk : GW p l e R s m args below meth c D A nL cells slots Q (wM Y q u) (pc + 3) lv (.ref (q 14) :: st)) : GW p l e R s m args below meth c D A nL cells slots Q (wM Y q u) pc lv (.ref (q 0) :: st) := g_get F lay_X7 0 rfl rfl 18 (by decide) fl_X7_60 rfl rfl hd kk
theorem G_X7_100 (F : Fx p s m args c D Y A cc nL RX7) (hd : decode cc pc = .ok (.getfield 100, 3)) (kk : GW p l e R s m args below meth c D A nL cells slots Q (wM Y q u) (pc + 3) lv (.int (u.2 5) :: st)) : GW p l e R s m args below meth c D A nL cells slots Q (wM Y q u) pc lv (.ref (q 0) :: st) := g_get F lay_X7 0 rfl rfl 19 (by decide) fl_X7_100 rfl rfl hd kk
theorem P_X7_100 {x : Int32} (F : Fx p s m args c D Y A cc nL RX7) (hd : decode cc pc = .ok (.putfield 100, 3)) (kk : GW p l e R s m args below meth c D A nL cells slots Q (wM Y q (sS u 5 x)) (pc + 3) lv (st)) : GW p l e R s m args below meth c D A nL cells slots Q (wM Y q u) pc lv (.int x :: .ref (q 0) :: st) := g_put F lay_X7 tyX7 tyX7_ok nmX7 0 rfl rfl 19 (by decide) fl_X7_100 rfl rfl (ty := .int) rfl rfl rfl (Nat.le_of_ble_eq_true rfl) hd (ws' := wM Y q (sS u 5 x)) rfl kk
theorem G_X7_63 (F : Fx p s m args c D Y A cc nL RX7) (hd : decode cc pc = .ok (.getfield 63, 3)) (kk : GW p l e R s m args below meth c D A nL cells slots Q (wM Y q u) (pc + 3) lv (.ref (q 15) :: st)) : GW p l e R s m args below meth c D A nL cells slots Q (wM Y q u) pc lv (.ref (q 0) :: st) := g_get F lay_X7 0 rfl rfl 20 (by decide) fl_X7_63 rfl rfl hd kk
theorem G_X7_66 (F : Fx p s m args c D Y A cc nL RX7) (hd : decode cc pc = .ok (.getfield 66, 3)) (kk : GW p l e R s m args below meth c D A nL cells slots Q (wM Y q u) (pc + 3) lv (.ref (q 16) :: st)) : GW p l e R s m args below meth c D A nL cells slots Q (wM Y q u) pc lv (.ref (q 0) :: st) := g_get F lay_X7 0 rfl rfl 21 (by decide) fl_X7_66 rfl rfl hd kk
theorem G_X7_69 (F : Fx p s m args c D Y A cc nL RX7) (hd : decode cc pc = .ok (.getfield 69, 3)) (kk : GW p l e R s m args below meth c D A nL cells slots Q (wM Y q u) (pc + 3) lv (.ref (q 17) :: st)) : GW p l e R s m args below meth c D A nL cells slots Q (wM Y q u) pc lv (.ref (q 0) :: st) := g_get F lay_X7 0 rfl rfl 22 (by decide) fl_X7_69 rfl rfl hd kk
theorem G_X7_72 (F : Fx p s m args c D Y A cc nL RX7) (hd : decode cc pc = .ok (.getfield 72, 3)) (kk : GW p l e R s m args below meth c D A nL cells slots Q (wM Y q u) (pc + 3) lv (.ref (q 18) :: st)) : GW p l e R s m args below meth c D A nL cells slots Q (wM Y q u) pc lv (.ref (q 0) :: st) := g_get F lay_X7 0 rfl rfl 23 (by decide) fl_X7_72 rfl rfl hd kk
theorem G_X7_97 (F : Fx p s m args c D Y A cc nL RX7) (hd : decode cc pc = .ok (.getfield 97, 3)) (kk : GW p l e R s m args below meth c D A nL cells slots Q (wM Y q u) (pc + 3) lv (.int (u.2 6) :: st)) : GW p l e R s m args below meth c D A nL cells slots Q (wM Y q u) pc lv (.ref (q 0) :: st) := g_get F lay_X7 0 rfl rfl 24 (by decide) fl_X7_97 rfl rfl hd kk
theorem P_X7_97 {x : Int32} (F : Fx p s m args c D Y A cc nL RX7) (hd : decode cc pc = .ok (.putfield 97, 3)) (kk : GW p l e R s m args below meth c D A nL cells slots Q (wM Y q (sS u 6 x)) (pc + 3) lv (st)) : GW p l e R s m args below meth c D A nL cells slots Q (wM Y q u) pc lv (.int x :: .ref (q 0) :: st) := g_put F lay_X7 tyX7 tyX7_ok nmX7 0 rfl rfl 24 (by decide) fl_X7_97 rfl rfl (ty := .int) rfl rfl rfl (Nat.le_of_ble_eq_true rfl) hd (ws' := wM Y q (sS u 6 x)) rfl kk
theorem G_X7_75 (F : Fx p s m args c D Y A cc nL RX7) (hd : decode cc pc = .ok (.getfield 75, 3)) (kk : GW p l e R s m args below meth c D A nL cells slots Q (wM Y q u) (pc + 3) lv (.ref (q 19) :: st)) : GW p l e R s m args below meth c D A nL cells slots Q (wM Y q u) pc lv (.ref (q 0) :: st) := g_get F lay_X7 0 rfl rfl 25 (by decide) fl_X7_75 rfl rfl hd kk
theorem G_X7_78 (F : Fx p s m args c D Y A cc nL RX7) (hd : decode cc pc = .ok (.getfield 78, 3)) (kk : GW p l e R s m args below meth c D A nL cells slots Q (wM Y q u) (pc + 3) lv (.ref (q 20) :: st)) : GW p l e R s m args below meth c D A nL cells slots Q (wM Y q u) pc lv (.ref (q 0) :: st) := g_get F lay_X7 0 rfl rfl 26 (by decide) fl_X7_78 rfl rfl hd kk
theorem G_X7_81 (F : Fx p s m args c D Y A cc nL RX7) (hd : decode cc pc = .ok (.getfield 81, 3)) (kk : GW p l e R s m args below meth c D A nL cells slots Q (wM Y q u) (pc + 3) lv (.ref (q 21) :: st)) : GW p l e R s m args below meth c D A nL cells slots Q (wM Y q u) pc lv (.ref (q 0) :: st) := g_get F lay_X7 0 rfl rfl 27 (by decide) fl_X7_81 rfl rfl hd kk
theorem G_X7_114 (F : Fx p s m args c D Y A cc nL RX7) (hd : decode cc pc = .ok (.getfield 114, 3)) (kk : GW p l e R s m args below meth c D A nL cells slots Q (wM Y q u) (pc + 3) lv (.int (u.2 7) :: st)) : GW p l e R s m args below meth c D A nL cells slots Q (wM Y q u) pc lv (.ref (q 0) :: st) := g_get F lay_X7 0 rfl rfl 28 (by decide) fl_X7_114 rfl rfl hd kk
theorem P_X7_114 {x : Int32} (F : Fx p s m args c D Y A cc nL RX7) (hd : decode cc pc = .ok (.putfield 114, 3)) (kk : GW p l e R s m args below meth c D A nL cells slots Q (wM Y q (sS u 7 x)) (pc + 3) lv (st)) : GW p l e R s m args below meth c D A nL cells slots Q (wM Y q u) pc lv (.int x :: .ref (q 0) :: st) := g_put F lay_X7 tyX7 tyX7_ok nmX7 0 rfl rfl 28 (by decide) fl_X7_114 rfl rfl (ty := .int) rfl rfl rfl (Nat.le_of_ble_eq_true rfl) hd (ws' := wM Y q (sS u 7 x)) rfl kk
theorem G_X7_186 (F : Fx p s m args c D Y A cc nL RX7) (hd : decode cc pc = .ok (.getfield 186, 3)) (kk : GW p l e R s m args below meth c D A nL cells slots Q (wM Y q u) (pc + 3) lv (.int (u.2 8) :: st)) : GW p l e R s m args below meth c D A nL cells slots Q (wM Y q u) pc lv (.ref (q 0) :: st) := g_get F lay_X7 0 rfl rfl 29 (by decide) fl_X7_186 rfl rfl hd kk
theorem P_X7_186 {x : Int32} (F : Fx p s m args c D Y A cc nL RX7) (hd : decode cc pc = .ok (.putfield 186, 3)) (kk : GW p l e R s m args below meth c D A nL cells slots Q (wM Y q (sS u 8 x)) (pc + 3) lv (st)) : GW p l e R s m args below meth c D A nL cells slots Q (wM Y q u) pc lv (.int x :: .ref (q 0) :: st) := g_put F lay_X7 tyX7 tyX7_ok nmX7 0 rfl rfl 29 (by decide) fl_X7_186 rfl rfl (ty := .int) rfl rfl rfl (Nat.le_of_ble_eq_true rfl) hd (ws' := wM Y q (sS u 8 x)) rfl kk
theorem G_X7_84 (F : Fx p s m args c D Y A cc nL RX7) (hd : decode cc pc = .ok (.getfield 84, 3)) (kk : GW p l e R s m args below meth c D A nL cells slots Q (wM Y q u) (pc + 3) lv (.ref (q 22) :: st)) : GW p l e R s m args below meth c D A nL cells slots Q (wM Y q u) pc lv (.ref (q 0) :: st) := g_get F lay_X7 0 rfl rfl 30 (by decide) fl_X7_84 rfl rfl hd kk
theorem AL_0 {i : Int32} (F : Fx p s m args c D Y A cc nL own) (hin : vp_in i 72) (hd : decode cc pc = .ok (.iaload, 1)) (kk : GW p l e R s m args below meth c D A nL cells slots Q (wM Y q u) (pc + 1) lv (.int (u.1 0 i.toNatClampNeg) :: st)) : GW p l e R s m args below meth c D A nL cells slots Q (wM Y q u) pc lv (.int i :: .ref (q 1) :: st) := g_iald F 1 rfl hin hd kk
theorem AS_0 {i x : Int32} (F : Fx p s m args c D Y A cc nL own) (hin : vp_in i 72) (hd : decode cc pc = .ok (.iastore, 1)) (kk : GW p l e R s m args below meth c D A nL cells slots Q (wM Y q (sA u 0 (upd (u.1 0) i.toNatClampNeg x))) (pc + 1) lv (st)) : GW p l e R s m args below meth c D A nL cells slots Q (wM Y q u) pc lv (.int x :: .int i :: .ref (q 1) :: st) := g_iast F 1 rfl hin hd (ws' := wM Y q (sA u 0 (upd (u.1 0) i.toNatClampNeg x))) rfl kk
theorem AL_1 {i : Int32} (F : Fx p s m args c D Y A cc nL own) (hin : vp_in i 72) (hd : decode cc pc = .ok (.baload, 1)) (kk : GW p l e R s m args below meth c D A nL cells slots Q (wM Y q u) (pc + 1) lv (.int (u.1 1 i.toNatClampNeg) :: st)) : GW p l e R s m args below meth c D A nL cells slots Q (wM Y q u) pc lv (.int i :: .ref (q 2) :: st) := g_zald F 2 rfl hin hd kk
theorem AS_1 {i x : Int32} (F : Fx p s m args c D Y A cc nL own) (hin : vp_in i 72) (hd : decode cc pc = .ok (.bastore, 1)) (kk : GW p l e R s m args below meth c D A nL cells slots Q (wM Y q (sA u 1 (upd (u.1 1) i.toNatClampNeg (vp_nar .boolean x)))) (pc + 1) lv (st)) : GW p l e R s m args below meth c D A nL cells slots Q (wM Y q u) pc lv (.int x :: .int i :: .ref (q 2) :: st) := g_zast F 2 rfl hin hd (ws' := wM Y q (sA u 1 (upd (u.1 1) i.toNatClampNeg (vp_nar .boolean x)))) rfl kk
theorem AL_2 {i : Int32} (F : Fx p s m args c D Y A cc nL own) (hin : vp_in i 6) (hd : decode cc pc = .ok (.baload, 1)) (kk : GW p l e R s m args below meth c D A nL cells slots Q (wM Y q u) (pc + 1) lv (.int (u.1 2 i.toNatClampNeg) :: st)) : GW p l e R s m args below meth c D A nL cells slots Q (wM Y q u) pc lv (.int i :: .ref (q 3) :: st) := g_zald F 3 rfl hin hd kk
theorem AS_2 {i x : Int32} (F : Fx p s m args c D Y A cc nL own) (hin : vp_in i 6) (hd : decode cc pc = .ok (.bastore, 1)) (kk : GW p l e R s m args below meth c D A nL cells slots Q (wM Y q (sA u 2 (upd (u.1 2) i.toNatClampNeg (vp_nar .boolean x)))) (pc + 1) lv (st)) : GW p l e R s m args below meth c D A nL cells slots Q (wM Y q u) pc lv (.int x :: .int i :: .ref (q 3) :: st) := g_zast F 3 rfl hin hd (ws' := wM Y q (sA u 2 (upd (u.1 2) i.toNatClampNeg (vp_nar .boolean x)))) rfl kk
theorem AL_3 {i : Int32} (F : Fx p s m args c D Y A cc nL own) (hin : vp_in i 6) (hd : decode cc pc = .ok (.iaload, 1)) (kk : GW p l e R s m args below meth c D A nL cells slots Q (wM Y q u) (pc + 1) lv (.int (u.1 3 i.toNatClampNeg) :: st)) : GW p l e R s m args below meth c D A nL cells slots Q (wM Y q u) pc lv (.int i :: .ref (q 4) :: st) := g_iald F 4 rfl hin hd kk
theorem AS_3 {i x : Int32} (F : Fx p s m args c D Y A cc nL own) (hin : vp_in i 6) (hd : decode cc pc = .ok (.iastore, 1)) (kk : GW p l e R s m args below meth c D A nL cells slots Q (wM Y q (sA u 3 (upd (u.1 3) i.toNatClampNeg x))) (pc + 1) lv (st)) : GW p l e R s m args below meth c D A nL cells slots Q (wM Y q u) pc lv (.int x :: .int i :: .ref (q 4) :: st) := g_iast F 4 rfl hin hd (ws' := wM Y q (sA u 3 (upd (u.1 3) i.toNatClampNeg x))) rfl kk
theorem AL_4 {i : Int32} (F : Fx p s m args c D Y A cc nL own) (hin : vp_in i 6) (hd : decode cc pc = .ok (.iaload, 1)) (kk : GW p l e R s m args below meth c D A nL cells slots Q (wM Y q u) (pc + 1) lv (.int (u.1 4 i.toNatClampNeg) :: st)) : GW p l e R s m args below meth c D A nL cells slots Q (wM Y q u) pc lv (.int i :: .ref (q 5) :: st) := g_iald F 5 rfl hin hd kk
theorem AS_4 {i x : Int32} (F : Fx p s m args c D Y A cc nL own) (hin : vp_in i 6) (hd : decode cc pc = .ok (.iastore, 1)) (kk : GW p l e R s m args below meth c D A nL cells slots Q (wM Y q (sA u 4 (upd (u.1 4) i.toNatClampNeg x))) (pc + 1) lv (st)) : GW p l e R s m args below meth c D A nL cells slots Q (wM Y q u) pc lv (.int x :: .int i :: .ref (q 5) :: st) := g_iast F 5 rfl hin hd (ws' := wM Y q (sA u 4 (upd (u.1 4) i.toNatClampNeg x))) rfl kk
theorem AL_5 {i : Int32} (F : Fx p s m args c D Y A cc nL own) (hin : vp_in i 60) (hd : decode cc pc = .ok (.iaload, 1)) (kk : GW p l e R s m args below meth c D A nL cells slots Q (wM Y q u) (pc + 1) lv (.int (u.1 5 i.toNatClampNeg) :: st)) : GW p l e R s m args below meth c D A nL cells slots Q (wM Y q u) pc lv (.int i :: .ref (q 6) :: st) := g_iald F 6 rfl hin hd kk
theorem AS_5 {i x : Int32} (F : Fx p s m args c D Y A cc nL own) (hin : vp_in i 60) (hd : decode cc pc = .ok (.iastore, 1)) (kk : GW p l e R s m args below meth c D A nL cells slots Q (wM Y q (sA u 5 (upd (u.1 5) i.toNatClampNeg x))) (pc + 1) lv (st)) : GW p l e R s m args below meth c D A nL cells slots Q (wM Y q u) pc lv (.int x :: .int i :: .ref (q 6) :: st) := g_iast F 6 rfl hin hd (ws' := wM Y q (sA u 5 (upd (u.1 5) i.toNatClampNeg x))) rfl kk
theorem AL_6 {i : Int32} (F : Fx p s m args c D Y A cc nL own) (hin : vp_in i 60) (hd : decode cc pc = .ok (.iaload, 1)) (kk : GW p l e R s m args below meth c D A nL cells slots Q (wM Y q u) (pc + 1) lv (.int (u.1 6 i.toNatClampNeg) :: st)) : GW p l e R s m args below meth c D A nL cells slots Q (wM Y q u) pc lv (.int i :: .ref (q 7) :: st) := g_iald F 7 rfl hin hd kk
theorem AS_6 {i x : Int32} (F : Fx p s m args c D Y A cc nL own) (hin : vp_in i 60) (hd : decode cc pc = .ok (.iastore, 1)) (kk : GW p l e R s m args below meth c D A nL cells slots Q (wM Y q (sA u 6 (upd (u.1 6) i.toNatClampNeg x))) (pc + 1) lv (st)) : GW p l e R s m args below meth c D A nL cells slots Q (wM Y q u) pc lv (.int x :: .int i :: .ref (q 7) :: st) := g_iast F 7 rfl hin hd (ws' := wM Y q (sA u 6 (upd (u.1 6) i.toNatClampNeg x))) rfl kk
theorem AL_7 {i : Int32} (F : Fx p s m args c D Y A cc nL own) (hin : vp_in i 60) (hd : decode cc pc = .ok (.iaload, 1)) (kk : GW p l e R s m args below meth c D A nL cells slots Q (wM Y q u) (pc + 1) lv (.int (u.1 7 i.toNatClampNeg) :: st)) : GW p l e R s m args below meth c D A nL cells slots Q (wM Y q u) pc lv (.int i :: .ref (q 8) :: st) := g_iald F 8 rfl hin hd kk
theorem AS_7 {i x : Int32} (F : Fx p s m args c D Y A cc nL own) (hin : vp_in i 60) (hd : decode cc pc = .ok (.iastore, 1)) (kk : GW p l e R s m args below meth c D A nL cells slots Q (wM Y q (sA u 7 (upd (u.1 7) i.toNatClampNeg x))) (pc + 1) lv (st)) : GW p l e R s m args below meth c D A nL cells slots Q (wM Y q u) pc lv (.int x :: .int i :: .ref (q 8) :: st) := g_iast F 8 rfl hin hd (ws' := wM Y q (sA u 7 (upd (u.1 7) i.toNatClampNeg x))) rfl kk
theorem AL_8 {i : Int32} (F : Fx p s m args c D Y A cc nL own) (hin : vp_in i 60) (hd : decode cc pc = .ok (.iaload, 1)) (kk : GW p l e R s m args below meth c D A nL cells slots Q (wM Y q u) (pc + 1) lv (.int (u.1 8 i.toNatClampNeg) :: st)) : GW p l e R s m args below meth c D A nL cells slots Q (wM Y q u) pc lv (.int i :: .ref (q 9) :: st) := g_iald F 9 rfl hin hd kk
theorem AS_8 {i x : Int32} (F : Fx p s m args c D Y A cc nL own) (hin : vp_in i 60) (hd : decode cc pc = .ok (.iastore, 1)) (kk : GW p l e R s m args below meth c D A nL cells slots Q (wM Y q (sA u 8 (upd (u.1 8) i.toNatClampNeg x))) (pc + 1) lv (st)) : GW p l e R s m args below meth c D A nL cells slots Q (wM Y q u) pc lv (.int x :: .int i :: .ref (q 9) :: st) := g_iast F 9 rfl hin hd (ws' := wM Y q (sA u 8 (upd (u.1 8) i.toNatClampNeg x))) rfl kk
theorem AL_9 {i : Int32} (F : Fx p s m args c D Y A cc nL own) (hin : vp_in i 60) (hd : decode cc pc = .ok (.iaload, 1)) (kk : GW p l e R s m args below meth c D A nL cells slots Q (wM Y q u) (pc + 1) lv (.int (u.1 9 i.toNatClampNeg) :: st)) : GW p l e R s m args below meth c D A nL cells slots Q (wM Y q u) pc lv (.int i :: .ref (q 10) :: st) := g_iald F 10 rfl hin hd kk
theorem AS_9 {i x : Int32} (F : Fx p s m args c D Y A cc nL own) (hin : vp_in i 60) (hd : decode cc pc = .ok (.iastore, 1)) (kk : GW p l e R s m args below meth c D A nL cells slots Q (wM Y q (sA u 9 (upd (u.1 9) i.toNatClampNeg x))) (pc + 1) lv (st)) : GW p l e R s m args below meth c D A nL cells slots Q (wM Y q u) pc lv (.int x :: .int i :: .ref (q 10) :: st) := g_iast F 10 rfl hin hd (ws' := wM Y q (sA u 9 (upd (u.1 9) i.toNatClampNeg x))) rfl kk
theorem AL_10 {i : Int32} (F : Fx p s m args c D Y A cc nL own) (hin : vp_in i 60) (hd : decode cc pc = .ok (.iaload, 1)) (kk : GW p l e R s m args below meth c D A nL cells slots Q (wM Y q u) (pc + 1) lv (.int (u.1 10 i.toNatClampNeg) :: st)) : GW p l e R s m args below meth c D A nL cells slots Q (wM Y q u) pc lv (.int i :: .ref (q 11) :: st) := g_iald F 11 rfl hin hd kk
theorem AS_10 {i x : Int32} (F : Fx p s m args c D Y A cc nL own) (hin : vp_in i 60) (hd : decode cc pc = .ok (.iastore, 1)) (kk : GW p l e R s m args below meth c D A nL cells slots Q (wM Y q (sA u 10 (upd (u.1 10) i.toNatClampNeg x))) (pc + 1) lv (st)) : GW p l e R s m args below meth c D A nL cells slots Q (wM Y q u) pc lv (.int x :: .int i :: .ref (q 11) :: st) := g_iast F 11 rfl hin hd (ws' := wM Y q (sA u 10 (upd (u.1 10) i.toNatClampNeg x))) rfl kk
theorem AL_11 {i : Int32} (F : Fx p s m args c D Y A cc nL own) (hin : vp_in i 60) (hd : decode cc pc = .ok (.iaload, 1)) (kk : GW p l e R s m args below meth c D A nL cells slots Q (wM Y q u) (pc + 1) lv (.int (u.1 11 i.toNatClampNeg) :: st)) : GW p l e R s m args below meth c D A nL cells slots Q (wM Y q u) pc lv (.int i :: .ref (q 12) :: st) := g_iald F 12 rfl hin hd kk
theorem AS_11 {i x : Int32} (F : Fx p s m args c D Y A cc nL own) (hin : vp_in i 60) (hd : decode cc pc = .ok (.iastore, 1)) (kk : GW p l e R s m args below meth c D A nL cells slots Q (wM Y q (sA u 11 (upd (u.1 11) i.toNatClampNeg x))) (pc + 1) lv (st)) : GW p l e R s m args below meth c D A nL cells slots Q (wM Y q u) pc lv (.int x :: .int i :: .ref (q 12) :: st) := g_iast F 12 rfl hin hd (ws' := wM Y q (sA u 11 (upd (u.1 11) i.toNatClampNeg x))) rfl kk
theorem AL_12 {i : Int32} (F : Fx p s m args c D Y A cc nL own) (hin : vp_in i 10) (hd : decode cc pc = .ok (.iaload, 1)) (kk : GW p l e R s m args below meth c D A nL cells slots Q (wM Y q u) (pc + 1) lv (.int (u.1 12 i.toNatClampNeg) :: st)) : GW p l e R s m args below meth c D A nL cells slots Q (wM Y q u) pc lv (.int i :: .ref (q 13) :: st) := g_iald F 13 rfl hin hd kk
theorem AS_12 {i x : Int32} (F : Fx p s m args c D Y A cc nL own) (hin : vp_in i 10) (hd : decode cc pc = .ok (.iastore, 1)) (kk : GW p l e R s m args below meth c D A nL cells slots Q (wM Y q (sA u 12 (upd (u.1 12) i.toNatClampNeg x))) (pc + 1) lv (st)) : GW p l e R s m args below meth c D A nL cells slots Q (wM Y q u) pc lv (.int x :: .int i :: .ref (q 13) :: st) := g_iast F 13 rfl hin hd (ws' := wM Y q (sA u 12 (upd (u.1 12) i.toNatClampNeg x))) rfl kk
theorem AL_13 {i : Int32} (F : Fx p s m args c D Y A cc nL own) (hin : vp_in i 40) (hd : decode cc pc = .ok (.iaload, 1)) (kk : GW p l e R s m args below meth c D A nL cells slots Q (wM Y q u) (pc + 1) lv (.int (u.1 13 i.toNatClampNeg) :: st)) : GW p l e R s m args below meth c D A nL cells slots Q (wM Y q u) pc lv (.int i :: .ref (q 14) :: st) := g_iald F 14 rfl hin hd kk
theorem AS_13 {i x : Int32} (F : Fx p s m args c D Y A cc nL own) (hin : vp_in i 40) (hd : decode cc pc = .ok (.iastore, 1)) (kk : GW p l e R s m args below meth c D A nL cells slots Q (wM Y q (sA u 13 (upd (u.1 13) i.toNatClampNeg x))) (pc + 1) lv (st)) : GW p l e R s m args below meth c D A nL cells slots Q (wM Y q u) pc lv (.int x :: .int i :: .ref (q 14) :: st) := g_iast F 14 rfl hin hd (ws' := wM Y q (sA u 13 (upd (u.1 13) i.toNatClampNeg x))) rfl kk
theorem AL_14 {i : Int32} (F : Fx p s m args c D Y A cc nL own) (hin : vp_in i 10) (hd : decode cc pc = .ok (.baload, 1)) (kk : GW p l e R s m args below meth c D A nL cells slots Q (wM Y q u) (pc + 1) lv (.int (u.1 14 i.toNatClampNeg) :: st)) : GW p l e R s m args below meth c D A nL cells slots Q (wM Y q u) pc lv (.int i :: .ref (q 15) :: st) := g_zald F 15 rfl hin hd kk
theorem AS_14 {i x : Int32} (F : Fx p s m args c D Y A cc nL own) (hin : vp_in i 10) (hd : decode cc pc = .ok (.bastore, 1)) (kk : GW p l e R s m args below meth c D A nL cells slots Q (wM Y q (sA u 14 (upd (u.1 14) i.toNatClampNeg (vp_nar .boolean x)))) (pc + 1) lv (st)) : GW p l e R s m args below meth c D A nL cells slots Q (wM Y q u) pc lv (.int x :: .int i :: .ref (q 15) :: st) := g_zast F 15 rfl hin hd (ws' := wM Y q (sA u 14 (upd (u.1 14) i.toNatClampNeg (vp_nar .boolean x)))) rfl kk
theorem AL_15 {i : Int32} (F : Fx p s m args c D Y A cc nL own) (hin : vp_in i 2) (hd : decode cc pc = .ok (.iaload, 1)) (kk : GW p l e R s m args below meth c D A nL cells slots Q (wM Y q u) (pc + 1) lv (.int (u.1 15 i.toNatClampNeg) :: st)) : GW p l e R s m args below meth c D A nL cells slots Q (wM Y q u) pc lv (.int i :: .ref (q 16) :: st) := g_iald F 16 rfl hin hd kk
theorem AS_15 {i x : Int32} (F : Fx p s m args c D Y A cc nL own) (hin : vp_in i 2) (hd : decode cc pc = .ok (.iastore, 1)) (kk : GW p l e R s m args below meth c D A nL cells slots Q (wM Y q (sA u 15 (upd (u.1 15) i.toNatClampNeg x))) (pc + 1) lv (st)) : GW p l e R s m args below meth c D A nL cells slots Q (wM Y q u) pc lv (.int x :: .int i :: .ref (q 16) :: st) := g_iast F 16 rfl hin hd (ws' := wM Y q (sA u 15 (upd (u.1 15) i.toNatClampNeg x))) rfl kk
theorem AL_16 {i : Int32} (F : Fx p s m args c D Y A cc nL own) (hin : vp_in i 2) (hd : decode cc pc = .ok (.iaload, 1)) (kk : GW p l e R s m args below meth c D A nL cells slots Q (wM Y q u) (pc + 1) lv (.int (u.1 16 i.toNatClampNeg) :: st)) : GW p l e R s m args below meth c D A nL cells slots Q (wM Y q u) pc lv (.int i :: .ref (q 17) :: st) := g_iald F 17 rfl hin hd kk
theorem AS_16 {i x : Int32} (F : Fx p s m args c D Y A cc nL own) (hin : vp_in i 2) (hd : decode cc pc = .ok (.iastore, 1)) (kk : GW p l e R s m args below meth c D A nL cells slots Q (wM Y q (sA u 16 (upd (u.1 16) i.toNatClampNeg x))) (pc + 1) lv (st)) : GW p l e R s m args below meth c D A nL cells slots Q (wM Y q u) pc lv (.int x :: .int i :: .ref (q 17) :: st) := g_iast F 17 rfl hin hd (ws' := wM Y q (sA u 16 (upd (u.1 16) i.toNatClampNeg x))) rfl kk
theorem AL_17 {i : Int32} (F : Fx p s m args c D Y A cc nL own) (hin : vp_in i 2) (hd : decode cc pc = .ok (.iaload, 1)) (kk : GW p l e R s m args below meth c D A nL cells slots Q (wM Y q u) (pc + 1) lv (.int (u.1 17 i.toNatClampNeg) :: st)) : GW p l e R s m args below meth c D A nL cells slots Q (wM Y q u) pc lv (.int i :: .ref (q 18) :: st) := g_iald F 18 rfl hin hd kk
theorem AS_17 {i x : Int32} (F : Fx p s m args c D Y A cc nL own) (hin : vp_in i 2) (hd : decode cc pc = .ok (.iastore, 1)) (kk : GW p l e R s m args below meth c D A nL cells slots Q (wM Y q (sA u 17 (upd (u.1 17) i.toNatClampNeg x))) (pc + 1) lv (st)) : GW p l e R s m args below meth c D A nL cells slots Q (wM Y q u) pc lv (.int x :: .int i :: .ref (q 18) :: st) := g_iast F 18 rfl hin hd (ws' := wM Y q (sA u 17 (upd (u.1 17) i.toNatClampNeg x))) rfl kk
theorem AL_18 {i : Int32} (F : Fx p s m args c D Y A cc nL own) (hin : vp_in i 20) (hd : decode cc pc = .ok (.iaload, 1)) (kk : GW p l e R s m args below meth c D A nL cells slots Q (wM Y q u) (pc + 1) lv (.int (u.1 18 i.toNatClampNeg) :: st)) : GW p l e R s m args below meth c D A nL cells slots Q (wM Y q u) pc lv (.int i :: .ref (q 19) :: st) := g_iald F 19 rfl hin hd kk
theorem AS_18 {i x : Int32} (F : Fx p s m args c D Y A cc nL own) (hin : vp_in i 20) (hd : decode cc pc = .ok (.iastore, 1)) (kk : GW p l e R s m args below meth c D A nL cells slots Q (wM Y q (sA u 18 (upd (u.1 18) i.toNatClampNeg x))) (pc + 1) lv (st)) : GW p l e R s m args below meth c D A nL cells slots Q (wM Y q u) pc lv (.int x :: .int i :: .ref (q 19) :: st) := g_iast F 19 rfl hin hd (ws' := wM Y q (sA u 18 (upd (u.1 18) i.toNatClampNeg x))) rfl kk
theorem AL_19 {i : Int32} (F : Fx p s m args c D Y A cc nL own) (hin : vp_in i 20) (hd : decode cc pc = .ok (.iaload, 1)) (kk : GW p l e R s m args below meth c D A nL cells slots Q (wM Y q u) (pc + 1) lv (.int (u.1 19 i.toNatClampNeg) :: st)) : GW p l e R s m args below meth c D A nL cells slots Q (wM Y q u) pc lv (.int i :: .ref (q 20) :: st) := g_iald F 20 rfl hin hd kk
theorem AS_19 {i x : Int32} (F : Fx p s m args c D Y A cc nL own) (hin : vp_in i 20) (hd : decode cc pc = .ok (.iastore, 1)) (kk : GW p l e R s m args below meth c D A nL cells slots Q (wM Y q (sA u 19 (upd (u.1 19) i.toNatClampNeg x))) (pc + 1) lv (st)) : GW p l e R s m args below meth c D A nL cells slots Q (wM Y q u) pc lv (.int x :: .int i :: .ref (q 20) :: st) := g_iast F 20 rfl hin hd (ws' := wM Y q (sA u 19 (upd (u.1 19) i.toNatClampNeg x))) rfl kk
theorem AL_20 {i : Int32} (F : Fx p s m args c D Y A cc nL own) (hin : vp_in i 20) (hd : decode cc pc = .ok (.iaload, 1)) (kk : GW p l e R s m args below meth c D A nL cells slots Q (wM Y q u) (pc + 1) lv (.int (u.1 20 i.toNatClampNeg) :: st)) : GW p l e R s m args below meth c D A nL cells slots Q (wM Y q u) pc lv (.int i :: .ref (q 21) :: st) := g_iald F 21 rfl hin hd kk
theorem AS_20 {i x : Int32} (F : Fx p s m args c D Y A cc nL own) (hin : vp_in i 20) (hd : decode cc pc = .ok (.iastore, 1)) (kk : GW p l e R s m args below meth c D A nL cells slots Q (wM Y q (sA u 20 (upd (u.1 20) i.toNatClampNeg x))) (pc + 1) lv (st)) : GW p l e R s m args below meth c D A nL cells slots Q (wM Y q u) pc lv (.int x :: .int i :: .ref (q 21) :: st) := g_iast F 21 rfl hin hd (ws' := wM Y q (sA u 20 (upd (u.1 20) i.toNatClampNeg x))) rfl kk
theorem AL_21 {i : Int32} (F : Fx p s m args c D Y A cc nL own) (hin : vp_in i 6) (hd : decode cc pc = .ok (.iaload, 1)) (kk : GW p l e R s m args below meth c D A nL cells slots Q (wM Y q u) (pc + 1) lv (.int (u.1 21 i.toNatClampNeg) :: st)) : GW p l e R s m args below meth c D A nL cells slots Q (wM Y q u) pc lv (.int i :: .ref (q 22) :: st) := g_iald F 22 rfl hin hd kk
theorem AS_21 {i x : Int32} (F : Fx p s m args c D Y A cc nL own) (hin : vp_in i 6) (hd : decode cc pc = .ok (.iastore, 1)) (kk : GW p l e R s m args below meth c D A nL cells slots Q (wM Y q (sA u 21 (upd (u.1 21) i.toNatClampNeg x))) (pc + 1) lv (st)) : GW p l e R s m args below meth c D A nL cells slots Q (wM Y q u) pc lv (.int x :: .int i :: .ref (q 22) :: st) := g_iast F 22 rfl hin hd (ws' := wM Y q (sA u 21 (upd (u.1 21) i.toNatClampNeg x))) rfl kk
end WORLDS
end
section
/-! A ROW: its methods as functions on (length, cells) -/
theorem dX3_get_0 : decode cX3_get 0 = .ok (.iload_n 1, 1) := by decide +kernel
theorem dX3_get_1 : decode cX3_get 1 = .ok (.ifCond .lt 21, 3) := by decide +kernel
theorem dX3_get_4 : decode cX3_get 4 = .ok (.iload_n 1, 1) := by decide +kernel
theorem dX3_get_5 : decode cX3_get 5 = .ok (.aload_n 0, 1) := by decide +kernel
theorem dX3_get_6 : decode cX3_get 6 = .ok (.getfield 9, 3) := by decide +kernel
theorem dX3_get_9 : decode cX3_get 9 = .ok (.arraylength, 1) := by decide +kernel
theorem dX3_get_10 : decode cX3_get 10 = .ok (.if_icmp .ge 12, 3) := by decide +kernel
theorem dX3_get_13 : decode cX3_get 13 = .ok (.aload_n 0, 1) := by decide +kernel
theorem dX3_get_14 : decode cX3_get 14 = .ok (.getfield 9, 3) := by decide +kernel
theorem dX3_get_17 : decode cX3_get 17 = .ok (.iload_n 1, 1) := by decide +kernel
theorem dX3_get_18 : decode cX3_get 18 = .ok (.iaload, 1) := by decide +kernel
theorem dX3_get_19 : decode cX3_get 19 = .ok (.goto 4, 3) := by decide +kernel
theorem dX3_get_22 : decode cX3_get 22 = .ok (.iconst (-1), 1) := by decide +kernel
theorem dX3_get_23 : decode cX3_get 23 = .ok (.ireturn, 1) := by decide +kernel
theorem dX3_set_0 : decode cX3_set 0 = .ok (.iload_n 1, 1) := by decide +kernel
theorem dX3_set_1 : decode cX3_set 1 = .ok (.ifCond .lt 19, 3) := by decide +kernel
theorem dX3_set_4 : decode cX3_set 4 = .ok (.iload_n 1, 1) := by decide +kernel
theorem dX3_set_5 : decode cX3_set 5 = .ok (.aload_n 0, 1) := by decide +kernel
theorem dX3_set_6 : decode cX3_set 6 = .ok (.getfield 9, 3) := by decide +kernel
theorem dX3_set_9 : decode cX3_set 9 = .ok (.arraylength, 1) := by decide +kernel
theorem dX3_set_10 : decode cX3_set 10 = .ok (.if_icmp .ge 10, 3) := by decide +kernel
theorem dX3_set_13 : decode cX3_set 13 = .ok (.aload_n 0, 1) := by decide +kernel
theorem dX3_set_14 : decode cX3_set 14 = .ok (.getfield 9, 3) := by decide +kernel
theorem dX3_set_17 : decode cX3_set 17 = .ok (.iload_n 1, 1) := by decide +kernel
theorem dX3_set_18 : decode cX3_set 18 = .ok (.iload_n 2, 1) := by decide +kernel
theorem dX3_set_19 : decode cX3_set 19 = .ok (.iastore, 1) := by decide +kernel
theorem dX3_set_20 : decode cX3_set 20 = .ok (.return_, 1) := by decide +kernel
theorem dX3_add_0 : decode cX3_add 0 = .ok (.iload_n 1, 1) := by decide +kernel
theorem dX3_add_1 : decode cX3_add 1 = .ok (.ifCond .lt 22, 3) := by decide +kernel
theorem dX3_add_4 : decode cX3_add 4 = .ok (.iload_n 1, 1) := by decide +kernel
theorem dX3_add_5 : decode cX3_add 5 = .ok (.aload_n 0, 1) := by decide +kernel
theorem dX3_add_6 : decode cX3_add 6 = .ok (.getfield 9, 3) := by decide +kernel
theorem dX3_add_9 : decode cX3_add 9 = .ok (.arraylength, 1) := by decide +kernel
theorem dX3_add_10 : decode cX3_add 10 = .ok (.if_icmp .ge 13, 3) := by decide +kernel
theorem dX3_add_13 : decode cX3_add 13 = .ok (.aload_n 0, 1) := by decide +kernel
theorem dX3_add_14 : decode cX3_add 14 = .ok (.getfield 9, 3) := by decide +kernel
theorem dX3_add_17 : decode cX3_add 17 = .ok (.iload_n 1, 1) := by decide +kernel
theorem dX3_add_18 : decode cX3_add 18 = .ok (.dup2, 1) := by decide +kernel
theorem dX3_add_19 : decode cX3_add 19 = .ok (.iaload, 1) := by decide +kernel
theorem dX3_add_20 : decode cX3_add 20 = .ok (.iload_n 2, 1) := by decide +kernel
theorem dX3_add_21 : decode cX3_add 21 = .ok (.iadd, 1) := by decide +kernel
theorem dX3_add_22 : decode cX3_add 22 = .ok (.iastore, 1) := by decide +kernel
theorem dX3_add_23 : decode cX3_add 23 = .ok (.return_, 1) := by decide +kernel
theorem dX3_fill_0 : decode cX3_fill 0 = .ok (.iconst 0, 1) := by decide +kernel
theorem dX3_fill_1 : decode cX3_fill 1 = .ok (.istore_n 2, 1) := by decide +kernel
theorem dX3_fill_2 : decode cX3_fill 2 = .ok (.iload_n 2, 1) := by decide +kernel
theorem dX3_fill_3 : decode cX3_fill 3 = .ok (.aload_n 0, 1) := by decide +kernel
theorem dX3_fill_4 : decode cX3_fill 4 = .ok (.getfield 9, 3) := by decide +kernel
theorem dX3_fill_7 : decode cX3_fill 7 = .ok (.arraylength, 1) := by decide +kernel
theorem dX3_fill_8 : decode cX3_fill 8 = .ok (.if_icmp .ge 16, 3) := by decide +kernel
theorem dX3_fill_11 : decode cX3_fill 11 = .ok (.aload_n 0, 1) := by decide +kernel
theorem dX3_fill_12 : decode cX3_fill 12 = .ok (.getfield 9, 3) := by decide +kernel
theorem dX3_fill_15 : decode cX3_fill 15 = .ok (.iload_n 2, 1) := by decide +kernel
theorem dX3_fill_16 : decode cX3_fill 16 = .ok (.iload_n 1, 1) := by decide +kernel
theorem dX3_fill_17 : decode cX3_fill 17 = .ok (.iastore, 1) := by decide +kernel
theorem dX3_fill_18 : decode cX3_fill 18 = .ok (.iinc 2 1, 3) := by decide +kernel
theorem dX3_fill_21 : decode cX3_fill 21 = .ok (.goto (-19), 3) := by decide +kernel
theorem dX3_fill_24 : decode cX3_fill 24 = .ok (.return_, 1) := by decide +kernel
def rget (n : Nat) (f : Nat → Int32) (i : Int32) : Int32 := if i < 0 then -1 else if nI n ≤ i then -1 else f i.toNatClampNeg
def rset (n : Nat) (f : Nat → Int32) (i x : Int32) : Nat → Int32 := if i < 0 then f else if nI n ≤ i then f else upd f i.toNatClampNeg x
def radd (n : Nat) (f : Nat → Int32) (i x : Int32) : Nat → Int32 := if i < 0 then f else if nI n ≤ i then f else upd f i.toNatClampNeg (f i.toNatClampNeg + x)
def rfill (n : Nat) (f : Nat → Int32) (x : Int32) : Nat → Int32 := fun j => if j < n then x else f j
theorem row_in {n : Nat} {i : Int32} (hn : n < 2 ^ 31) (h1 : ¬ i < 0) (h2 : ¬ nI n ≤ i) : vp_in i n := by
  rw [vp_in_iff]
  rw [Int32.lt_iff_toInt_lt] at h1
  rw [Int32.le_iff_toInt_le, nI_toInt hn] at h2
  have h0 : (0 : Int32).toInt = 0 := rfl
  omega
set_option maxRecDepth 20000 in
theorem kX3_get {l : Launch} {D : va_G} {Y : Nat → ClassId} {a b n : Nat} {f : Nat → Int32} {i : Int32} (hn : n < 2 ^ 31) : CMi l yX3_get cX3_get 2 (some .int) 0 0 D Y (wR Y a b n f) (wR Y a b n f) [.ref a, .int i] (rget n f i) := by
  refine cm_ofi (by decide) (Nat.le_of_ble_eq_true rfl) rfl (fun p e s m args below meth c A F hr hlk => ?_)
  show GW p l e { frames := 0, cells := 0, slots := 0, locals := 0 } s m args below meth c D A 2 0 0 (MQ below (QI D (wR Y a b n f) (rget n f i) A) args s 0 0 A) (wR Y a b n f) 0 [(0, .ref a), (1, .int i)] []
  have bad : ∀ (_ : Unit), -1 = rget n f i → GW p l e { frames := 0, cells := 0, slots := 0, locals := 0 } s m args below meth c D A 2 0 0 (MQ below (QI D (wR Y a b n f) (rget n f i) A) args s 0 0 A) (wR Y a b n f) 22 [(0, .ref a), (1, .int i)] [] := by
    intro _ hX
    refine g_iconst (v := -1) F dX3_get_22 (by decide) ?_
    exact g_retS F hr rfl hlk dX3_get_23 hX
  refine g_iload_n F dX3_get_0 1 rfl rfl ?_
  refine g_if_lt (tgt := 22) F dX3_get_1 (by decide) (fun c1 => ?_) (fun c1 => ?_)
  · exact bad () (if_pos c1).symm
  · refine g_iload_n F dX3_get_4 1 rfl rfl ?_
    refine g_aload_n F dX3_get_5 0 rfl rfl ?_
    refine G_X3_9 F dX3_get_6 ?_
    refine g_alen F 1 rfl (v := nI n) rfl dX3_get_9 ?_
    refine g_icmp_ge (tgt := 22) F dX3_get_10 (by decide) (fun c2 => ?_) (fun c2 => ?_)
    · exact bad () (by rw [rget, if_neg c1, if_pos c2])
    · refine g_aload_n F dX3_get_13 0 rfl rfl ?_
      refine G_X3_9 F dX3_get_14 ?_
      refine g_iload_n F dX3_get_17 1 rfl rfl ?_
      refine g_iald F 1 rfl (row_in hn c1 c2) dX3_get_18 ?_
      refine g_goto (tgt := 23) F dX3_get_19 (by decide) ?_
      exact g_retS F hr rfl hlk dX3_get_23 (by rw [rget, if_neg c1, if_neg c2])
set_option maxRecDepth 20000 in
theorem kX3_set {l : Launch} {D : va_G} {Y : Nat → ClassId} {a b n : Nat} {f : Nat → Int32} {i x : Int32} (hn : n < 2 ^ 31) : CMv l yX3_set cX3_set 3 0 0 D Y (wR Y a b n f) (wR Y a b n (rset n f i x)) [.ref a, .int i, .int x] := by
  refine cm_ofv (by decide) (Nat.le_of_ble_eq_true rfl) rfl (fun p e s m args below meth c A F hr hlk => ?_)
  show GW p l e { frames := 0, cells := 0, slots := 0, locals := 0 } s m args below meth c D A 3 0 0 (MQ below (QV D (wR Y a b n (rset n f i x)) A) args s 0 0 A) (wR Y a b n f) 0 [(0, .ref a), (1, .int i), (2, .int x)] []
  refine g_iload_n F dX3_set_0 1 rfl rfl ?_
  refine g_if_lt (tgt := 20) F dX3_set_1 (by decide) (fun c1 => ?_) (fun c1 => ?_)
  · rw [rset, if_pos c1]
    exact g_vret F hr hlk dX3_set_20
  · refine g_iload_n F dX3_set_4 1 rfl rfl ?_
    refine g_aload_n F dX3_set_5 0 rfl rfl ?_
    refine G_X3_9 F dX3_set_6 ?_
    refine g_alen F 1 rfl (v := nI n) rfl dX3_set_9 ?_
    refine g_icmp_ge (tgt := 20) F dX3_set_10 (by decide) (fun c2 => ?_) (fun c2 => ?_)
    · rw [rset, if_neg c1, if_pos c2]
      exact g_vret F hr hlk dX3_set_20
    · refine g_aload_n F dX3_set_13 0 rfl rfl ?_
      refine G_X3_9 F dX3_set_14 ?_
      refine g_iload_n F dX3_set_17 1 rfl rfl ?_
      refine g_iload_n F dX3_set_18 2 rfl rfl ?_
      refine g_iast F 1 rfl (row_in hn c1 c2) dX3_set_19 (ws' := wR Y a b n (upd f i.toNatClampNeg x)) rfl ?_
      rw [rset, if_neg c1, if_neg c2]
      exact g_vret F hr hlk dX3_set_20
set_option maxRecDepth 20000 in
theorem kX3_add {l : Launch} {D : va_G} {Y : Nat → ClassId} {a b n : Nat} {f : Nat → Int32} {i x : Int32} (hn : n < 2 ^ 31) : CMv l yX3_add cX3_add 3 0 0 D Y (wR Y a b n f) (wR Y a b n (radd n f i x)) [.ref a, .int i, .int x] := by
  refine cm_ofv (by decide) (Nat.le_of_ble_eq_true rfl) rfl (fun p e s m args below meth c A F hr hlk => ?_)
  show GW p l e { frames := 0, cells := 0, slots := 0, locals := 0 } s m args below meth c D A 3 0 0 (MQ below (QV D (wR Y a b n (radd n f i x)) A) args s 0 0 A) (wR Y a b n f) 0 [(0, .ref a), (1, .int i), (2, .int x)] []
  refine g_iload_n F dX3_add_0 1 rfl rfl ?_
  refine g_if_lt (tgt := 23) F dX3_add_1 (by decide) (fun c1 => ?_) (fun c1 => ?_)
  · rw [radd, if_pos c1]
    exact g_vret F hr hlk dX3_add_23
  · refine g_iload_n F dX3_add_4 1 rfl rfl ?_
    refine g_aload_n F dX3_add_5 0 rfl rfl ?_
    refine G_X3_9 F dX3_add_6 ?_
    refine g_alen F 1 rfl (v := nI n) rfl dX3_add_9 ?_
    refine g_icmp_ge (tgt := 23) F dX3_add_10 (by decide) (fun c2 => ?_) (fun c2 => ?_)
    · rw [radd, if_neg c1, if_pos c2]
      exact g_vret F hr hlk dX3_add_23
    · refine g_aload_n F dX3_add_13 0 rfl rfl ?_
      refine G_X3_9 F dX3_add_14 ?_
      refine g_iload_n F dX3_add_17 1 rfl rfl ?_
      refine g_dup2 F dX3_add_18 rfl rfl ?_
      refine g_iald F 1 rfl (row_in hn c1 c2) dX3_add_19 ?_
      refine g_iload_n F dX3_add_20 2 rfl rfl ?_
      refine g_iadd F dX3_add_21 ?_
      refine g_iast F 1 rfl (row_in hn c1 c2) dX3_add_22 (ws' := wR Y a b n (upd f i.toNatClampNeg (f i.toNatClampNeg + x))) rfl ?_
      rw [radd, if_neg c1, if_neg c2]
      exact g_vret F hr hlk dX3_add_23
set_option maxRecDepth 20000 in
theorem kX3_fill {l : Launch} {D : va_G} {Y : Nat → ClassId} {a b n : Nat} {f : Nat → Int32} {x : Int32} (hn : n < 2 ^ 31) : CMv l yX3_fill cX3_fill 3 0 0 D Y (wR Y a b n f) (wR Y a b n (rfill n f x)) [.ref a, .int x] := by
  refine cm_ofv (by decide) (Nat.le_of_ble_eq_true rfl) rfl (fun p e s m args below meth c A F hr hlk => ?_)
  show GW p l e { frames := 0, cells := 0, slots := 0, locals := 0 } s m args below meth c D A 3 0 0 (MQ below (QV D (wR Y a b n (rfill n f x)) A) args s 0 0 A) (wR Y a b n f) 0 [(0, .ref a), (1, .int x)] []
  have b2 : ∀ (k j : Nat) (g : Nat → Int32), j ≤ n → n ≤ j + k → (∀ i, g i = if i < j then (if i < n then x else f i) else f i) → GW p l e { frames := 0, cells := 0, slots := 0, locals := 0 } s m args below meth c D A 3 0 0 (MQ below (QV D (wR Y a b n (rfill n f x)) A) args s 0 0 A) (wR Y a b n g) 2 [(2, .int (nI j)), (0, .ref a), (1, .int x)] [] := by
    have hend : ∀ (j : Nat) (g : Nat → Int32), n ≤ j → (∀ i, g i = if i < j then (if i < n then x else f i) else f i) → g = rfill n f x := by
      intro j g hj hg
      funext i
      rw [hg i]
      unfold rfill
      by_cases h1 : i < j
      · rw [if_pos h1]
      · rw [if_neg h1, if_neg (by omega)]
    intro k
    induction k with
    | zero =>
      intro j g hj hk hg
      refine g_iload_n F dX3_fill_2 0 rfl rfl ?_
      refine g_aload_n F dX3_fill_3 1 rfl rfl ?_
      refine G_X3_9 F dX3_fill_4 ?_
      refine g_alen F 1 rfl (v := nI n) rfl dX3_fill_7 ?_
      refine g_icmp_ge (tgt := 24) F dX3_fill_8 (by decide) (fun c2 => ?_) (fun c2 => ?_)
      · rw [← hend j g (by omega) hg]
        exact g_vret F hr hlk dX3_fill_24
      · exact absurd (nI_le (by omega) (by omega)) c2
    | succ k ih =>
      intro j g hj hk hg
      refine g_iload_n F dX3_fill_2 0 rfl rfl ?_
      refine g_aload_n F dX3_fill_3 1 rfl rfl ?_
      refine G_X3_9 F dX3_fill_4 ?_
      refine g_alen F 1 rfl (v := nI n) rfl dX3_fill_7 ?_
      refine g_icmp_ge (tgt := 24) F dX3_fill_8 (by decide) (fun c2 => ?_) (fun c2 => ?_)
      · have hj2 : n ≤ j := by
          rcases Nat.lt_or_ge j n with h | h
          · exact absurd c2 (nI_ge h hn)
          · exact h
        rw [← hend j g hj2 hg]
        exact g_vret F hr hlk dX3_fill_24
      · have hj2 : j < n := by
          rcases Nat.lt_or_ge j n with h | h
          · exact h
          · exact absurd (nI_le h (by omega)) c2
        refine g_aload_n F dX3_fill_11 1 rfl rfl ?_
        refine G_X3_9 F dX3_fill_12 ?_
        refine g_iload_n F dX3_fill_15 0 rfl rfl ?_
        refine g_iload_n F dX3_fill_16 2 rfl rfl ?_
        refine g_iast F 1 rfl (vp_in_nI hj2 hn) dX3_fill_17 (ws' := wR Y a b n (upd g (nI j).toNatClampNeg x)) rfl ?_
        refine g_iinc (v := nI (j + 1)) (lv' := [(2, .int (nI (j + 1))), (0, .ref a), (1, .int x)]) F dX3_fill_18 0 rfl (nI_1 j) (by decide) rfl ?_
        refine g_goto (tgt := 2) F dX3_fill_21 (by decide) ?_
        refine ih (j + 1) _ hj2 (by omega) (fun i => ?_)
        rw [nI_clamp (by omega)]
        by_cases hi : i = j
        · subst hi
          rw [pk_us, if_pos (by omega), if_pos hj2]
        · rw [pk_un hi, hg i]
          by_cases h1 : i < j
          · rw [if_pos h1, if_pos (show i < j + 1 by omega)]
          · rw [if_neg h1, if_neg (by omega)]
  refine g_iconst (v := nI 0) F dX3_fill_0 (by decide) ?_
  refine g_istore_n (lv' := [(2, .int (nI 0)), (0, .ref a), (1, .int x)]) F dX3_fill_1 rfl (by decide) rfl ?_
  exact b2 n 0 f (Nat.zero_le _) (by omega) (fun i => by rw [if_neg (by omega)])
def rg (u : St) (k : Nat) (i : Int32) : Int32 := rget (rl k) (u.1 k) i
def rs (u : St) (k : Nat) (i x : Int32) : St := sA u k (rset (rl k) (u.1 k) i x)
def ra (u : St) (k : Nat) (i x : Int32) : St := sA u k (radd (rl k) (u.1 k) i x)
def rf (u : St) (k : Nat) (x : Int32) : St := sA u k (rfill (rl k) (u.1 k) x)
theorem rl_lt (k : Nat) : rl k < 2 ^ 31 := by
  unfold rl; split <;> decide

theorem lt22 {k : Nat} (h : k < 22) : k = 0 ∨ k = 1 ∨ k = 2 ∨ k = 3 ∨ k = 4 ∨ k = 5 ∨ k = 6 ∨ k = 7 ∨ k = 8 ∨ k = 9 ∨ k = 10 ∨ k = 11 ∨ k = 12 ∨ k = 13 ∨ k = 14 ∨ k = 15 ∨ k = 16 ∨ k = 17 ∨ k = 18 ∨ k = 19 ∨ k = 20 ∨ k = 21 := by omega
theorem wC_row {Y : Nat → ClassId} {q : Nat → Nat} {u : St} {k : Nat} (h : k < 22) : wC Y q u = (wC Y q u).take (6 + 2 * k) ++ wR Y (q (6 + 2 * k)) (q (7 + 2 * k)) (rl k) (u.1 k) ++ (wC Y q u).drop (8 + 2 * k) := by
  rcases lt22 h with rfl | rfl | rfl | rfl | rfl | rfl | rfl | rfl | rfl | rfl | rfl | rfl | rfl | rfl | rfl | rfl | rfl | rfl | rfl | rfl | rfl | rfl <;> rfl
theorem wC_rowA {Y : Nat → ClassId} {q : Nat → Nat} {u : St} {k : Nat} {f : Nat → Int32} (h : k < 22) : (wC Y q u).take (6 + 2 * k) ++ wR Y (q (6 + 2 * k)) (q (7 + 2 * k)) (rl k) f ++ (wC Y q u).drop (8 + 2 * k) = wC Y q (sA u k f) := by
  rcases lt22 h with rfl | rfl | rfl | rfl | rfl | rfl | rfl | rfl | rfl | rfl | rfl | rfl | rfl | rfl | rfl | rfl | rfl | rfl | rfl | rfl | rfl | rfl <;> rfl
theorem C_rget {p : Program} {l : Launch} {e : Env} {R : Room} {s : State} {m : MethodId} {args : Array Value} {below : List Frame} {meth : Method} {c : Code} {D : va_G} {Y : Nat → ClassId} {A : Nat → Prop} {cc : ByteArray} {nL : Nat} {own : String} {Q : State → Prop} {pc : Nat} {lv : List (Nat × Value)} {rest : List Value} {q : Nat → Nat} {u : St} {i : Int32} (F : Fx p s m args c D Y A cc nL own) (k : Nat) (hk : k < 22) {index : Nat} (hml : Cond.methodLink own index yX3_get ∈ TBL) (hR : 0 + 1 ≤ R.frames ∧ 8 + (2 + 11) + 0 ≤ R.locals) (hcat : (rest.map fun v => v.category).sum ≤ 8) (hd : decode cc pc = .ok (.invokevirtual index, 3)) (kk : GW p l e R s m args below meth c D A nL 0 0 Q (wC Y q u) (pc + 3) lv (.int (rg u k i) :: rest)) : GW p l e R s m args below meth c D A nL 0 0 Q (wC Y q u) pc lv (.int i :: .ref (q (6 + 2 * k)) :: rest) := g_callVi (n := 1) (q0 := 0) (As := [.int i]) F _ _ (kX3_get (a := q (6 + 2 * k)) (b := q (7 + 2 * k)) (f := u.1 k) (rl_lt k)) (wC_row hk) ((wC_row hk).symm) (by unfold mOK; decide +kernel) rfl rfl cd_yX3_get hml im_yX3_get se_yX3_get in_X3 rfl rfl hR ⟨Nat.zero_le _, Nat.zero_le _⟩ rfl hcat hd kk
theorem C_rset {p : Program} {l : Launch} {e : Env} {R : Room} {s : State} {m : MethodId} {args : Array Value} {below : List Frame} {meth : Method} {c : Code} {D : va_G} {Y : Nat → ClassId} {A : Nat → Prop} {cc : ByteArray} {nL : Nat} {own : String} {Q : State → Prop} {pc : Nat} {lv : List (Nat × Value)} {rest : List Value} {q : Nat → Nat} {u : St} {i x : Int32} (F : Fx p s m args c D Y A cc nL own) (k : Nat) (hk : k < 22) {index : Nat} (hml : Cond.methodLink own index yX3_set ∈ TBL) (hR : 0 + 1 ≤ R.frames ∧ 8 + (3 + 11) + 0 ≤ R.locals) (hcat : (rest.map fun v => v.category).sum ≤ 8) (hd : decode cc pc = .ok (.invokevirtual index, 3)) (kk : GW p l e R s m args below meth c D A nL 0 0 Q (wC Y q (rs u k i x)) (pc + 3) lv (rest)) : GW p l e R s m args below meth c D A nL 0 0 Q (wC Y q u) pc lv (.int x :: .int i :: .ref (q (6 + 2 * k)) :: rest) := g_callVv (n := 2) (q0 := 0) (As := [.int i, .int x]) F _ _ (kX3_set (a := q (6 + 2 * k)) (b := q (7 + 2 * k)) (f := u.1 k) (rl_lt k)) (wC_row hk) (wC_rowA hk) (by unfold mOK; decide +kernel) rfl rfl cd_yX3_set hml im_yX3_set se_yX3_set in_X3 rfl rfl hR ⟨Nat.zero_le _, Nat.zero_le _⟩ rfl hcat hd kk
theorem C_radd {p : Program} {l : Launch} {e : Env} {R : Room} {s : State} {m : MethodId} {args : Array Value} {below : List Frame} {meth : Method} {c : Code} {D : va_G} {Y : Nat → ClassId} {A : Nat → Prop} {cc : ByteArray} {nL : Nat} {own : String} {Q : State → Prop} {pc : Nat} {lv : List (Nat × Value)} {rest : List Value} {q : Nat → Nat} {u : St} {i x : Int32} (F : Fx p s m args c D Y A cc nL own) (k : Nat) (hk : k < 22) {index : Nat} (hml : Cond.methodLink own index yX3_add ∈ TBL) (hR : 0 + 1 ≤ R.frames ∧ 8 + (3 + 11) + 0 ≤ R.locals) (hcat : (rest.map fun v => v.category).sum ≤ 8) (hd : decode cc pc = .ok (.invokevirtual index, 3)) (kk : GW p l e R s m args below meth c D A nL 0 0 Q (wC Y q (ra u k i x)) (pc + 3) lv (rest)) : GW p l e R s m args below meth c D A nL 0 0 Q (wC Y q u) pc lv (.int x :: .int i :: .ref (q (6 + 2 * k)) :: rest) := g_callVv (n := 2) (q0 := 0) (As := [.int i, .int x]) F _ _ (kX3_add (a := q (6 + 2 * k)) (b := q (7 + 2 * k)) (f := u.1 k) (rl_lt k)) (wC_row hk) (wC_rowA hk) (by unfold mOK; decide +kernel) rfl rfl cd_yX3_add hml im_yX3_add se_yX3_add in_X3 rfl rfl hR ⟨Nat.zero_le _, Nat.zero_le _⟩ rfl hcat hd kk
theorem C_rfill {p : Program} {l : Launch} {e : Env} {R : Room} {s : State} {m : MethodId} {args : Array Value} {below : List Frame} {meth : Method} {c : Code} {D : va_G} {Y : Nat → ClassId} {A : Nat → Prop} {cc : ByteArray} {nL : Nat} {own : String} {Q : State → Prop} {pc : Nat} {lv : List (Nat × Value)} {rest : List Value} {q : Nat → Nat} {u : St} {x : Int32} (F : Fx p s m args c D Y A cc nL own) (k : Nat) (hk : k < 22) {index : Nat} (hml : Cond.methodLink own index yX3_fill ∈ TBL) (hR : 0 + 1 ≤ R.frames ∧ 8 + (3 + 11) + 0 ≤ R.locals) (hcat : (rest.map fun v => v.category).sum ≤ 8) (hd : decode cc pc = .ok (.invokevirtual index, 3)) (kk : GW p l e R s m args below meth c D A nL 0 0 Q (wC Y q (rf u k x)) (pc + 3) lv (rest)) : GW p l e R s m args below meth c D A nL 0 0 Q (wC Y q u) pc lv (.int x :: .ref (q (6 + 2 * k)) :: rest) := g_callVv (n := 1) (q0 := 0) (As := [.int x]) F _ _ (kX3_fill (a := q (6 + 2 * k)) (b := q (7 + 2 * k)) (f := u.1 k) (rl_lt k)) (wC_row hk) (wC_rowA hk) (by unfold mOK; decide +kernel) rfl rfl cd_yX3_fill hml im_yX3_fill se_yX3_fill in_X3 rfl rfl hR ⟨Nat.zero_le _, Nat.zero_le _⟩ rfl hcat hd kk
theorem tab_out4 {x : Int32} (h0 : ¬ x = 0) (h1 : ¬ x = 1) (h2 : ¬ x = 2) (h3 : ¬ x = 3) : x.toInt < 0 ∨ 3 < x.toInt := by
  rw [← Int32.toInt_inj] at h0 h1 h2 h3
  have e0 : (0 : Int32).toInt = 0 := rfl
  have e1 : (1 : Int32).toInt = 1 := rfl
  have e2 : (2 : Int32).toInt = 2 := rfl
  have e3 : (3 : Int32).toInt = 3 := rfl
  omega
theorem tab_out5 {x : Int32} (h0 : ¬ x = 0) (h1 : ¬ x = 1) (h2 : ¬ x = 2) (h3 : ¬ x = 3) (h4 : ¬ x = 4) : x.toInt < 0 ∨ 4 < x.toInt := by
  have h := tab_out4 h0 h1 h2 h3
  rw [← Int32.toInt_inj] at h4
  have e4 : (4 : Int32).toInt = 4 := rfl
  omega
theorem tab_out6 {x : Int32} (h0 : ¬ x = 0) (h1 : ¬ x = 1) (h2 : ¬ x = 2) (h3 : ¬ x = 3) (h4 : ¬ x = 4) (h5 : ¬ x = 5) : x.toInt < 0 ∨ 5 < x.toInt := by
  have h := tab_out5 h0 h1 h2 h3 h4
  rw [← Int32.toInt_inj] at h5
  have e5 : (5 : Int32).toInt = 5 := rfl
  omega
theorem g_lookup {p : Program} {l : Launch} {e : Env} {R : Room} {s : State} {m : MethodId} {args : Array Value} {below : List Frame} {meth : Method} {c : Code} {D : va_G} {Y : Nat → ClassId} {A : Nat → Prop} {cc : ByteArray} {nL : Nat} {own : String} {cells slots : Nat} {Q : State → Prop} {ws : va_W} {pc : Nat} {lv : List (Nat × Value)} {st : List Value} (F : Fx p s m args c D Y A cc nL own) {dflt : Int} {ps : Array (Int × Int)} {len : Nat} {x : Int32} {off : Int} {tgt : Nat} (hd : decode cc pc = .ok (.lookupswitch dflt ps, len)) (hp : (ps.toList.zip (ps.toList.drop 1)).all (fun (a, next) => a.1 < next.1) = true) (ho : Op.lookupswitch.offset ps.toList dflt x.toInt = off) (ht : (pc : Int) + off = (tgt : Int)) (k : GW p l e R s m args below meth c D A nL cells slots Q ws tgt lv st) : GW p l e R s m args below meth c D A nL cells slots Q ws pc lv (.int x :: st) := fun H locs ls hP hD hS hl => lv_lookup F.1 F.2.1 hd hp ho ht (k H locs ls hP hD hS hl)
theorem nar01 {v : Int32} (h : v = 0 ∨ v = 1) : narrow .boolean (.int v) = .int v := by
  rcases h with rfl | rfl <;> rfl
theorem g_retCb {p : Program} {l : Launch} {e : Env} {R : Room} {s : State} {m : MethodId} {args : Array Value} {below : List Frame} {meth : Method} {c : Code} {D : va_G} {Y : Nat → ClassId} {A : Nat → Prop} {cc : ByteArray} {nL : Nat} {own : String} {cells slots : Nat} {pc : Nat} {lv : List (Nat × Value)} {wf : St → va_W} {u u1 : St} {v r : Int32} (F : Fx p s m args c D Y A cc nL own) (hr : meth.sig.returnType = some .boolean) (hlocks : meth.locks = false) (hd : decode cc pc = .ok (.ireturn, 1)) (hX : (if v = 0 ∨ v = 1 then some (v, u) else none) = some (r, u1)) : GW p l e R s m args below meth c D A nL cells slots (MQ below (QI D (wf u1) r A) args s cells slots A) (wf u) pc lv [.int v] := by
  by_cases h : v = 0 ∨ v = 1
  · rw [if_pos h] at hX
    refine g_retC F hr ?_ hlocks hd hX
    rcases h with rfl | rfl <;> rfl
  · rw [if_neg h] at hX; cases hX
end
section
/-! static methods (by program: wip/whole/gen/gen.py) -/
theorem dX4_cellOf_0 : decode cX4_cellOf 0 = .ok (.iload_n 0, 1) := by decide +kernel
theorem dX4_cellOf_1 : decode cX4_cellOf 1 = .ok (.bipush 100, 2) := by decide +kernel
theorem dX4_cellOf_3 : decode cX4_cellOf 3 = .ok (.idiv, 1) := by decide +kernel
theorem dX4_cellOf_4 : decode cX4_cellOf 4 = .ok (.iconst 3, 1) := by decide +kernel
theorem dX4_cellOf_5 : decode cX4_cellOf 5 = .ok (.imul, 1) := by decide +kernel
theorem dX4_cellOf_6 : decode cX4_cellOf 6 = .ok (.iload_n 0, 1) := by decide +kernel
theorem dX4_cellOf_7 : decode cX4_cellOf 7 = .ok (.bipush 10, 2) := by decide +kernel
theorem dX4_cellOf_9 : decode cX4_cellOf 9 = .ok (.idiv, 1) := by decide +kernel
theorem dX4_cellOf_10 : decode cX4_cellOf 10 = .ok (.bipush 10, 2) := by decide +kernel
theorem dX4_cellOf_12 : decode cX4_cellOf 12 = .ok (.irem, 1) := by decide +kernel
theorem dX4_cellOf_13 : decode cX4_cellOf 13 = .ok (.iadd, 1) := by decide +kernel
theorem dX4_cellOf_14 : decode cX4_cellOf 14 = .ok (.iconst 4, 1) := by decide +kernel
theorem dX4_cellOf_15 : decode cX4_cellOf 15 = .ok (.imul, 1) := by decide +kernel
theorem dX4_cellOf_16 : decode cX4_cellOf 16 = .ok (.iload_n 0, 1) := by decide +kernel
theorem dX4_cellOf_17 : decode cX4_cellOf 17 = .ok (.bipush 10, 2) := by decide +kernel
theorem dX4_cellOf_19 : decode cX4_cellOf 19 = .ok (.irem, 1) := by decide +kernel
theorem dX4_cellOf_20 : decode cX4_cellOf 20 = .ok (.iadd, 1) := by decide +kernel
theorem dX4_cellOf_21 : decode cX4_cellOf 21 = .ok (.ireturn, 1) := by decide +kernel
def pX4_cellOf (a1 : Int32) : Int32 := ((((a1 / 100) * 3) + ((a1 / 10) - (a1 / 10) / 10 * 10)) * 4) + (a1 - a1 / 10 * 10)
set_option maxHeartbeats 4000000 in
set_option maxRecDepth 20000 in
theorem kX4_cellOf {l : Launch} {D : va_G} {Y : Nat → ClassId} {a1 : Int32} : CMi l yX4_cellOf cX4_cellOf 1 (some .int) 0 0 D Y [] [] [.int a1] (pX4_cellOf a1) := by
  obtain ⟨r, hX⟩ : ∃ r, pX4_cellOf a1 = r := ⟨_, rfl⟩
  rw [hX]
  refine cm_ofi (by decide) (Nat.le_of_ble_eq_true rfl) rfl (fun p e s m args below meth c A F hr hlk => ?_)
  show GW p l e { frames := 0, cells := 0, slots := 0, locals := 0 } s m args below meth c D A 1 0 0 (MQ below (QI D [] r A) args s 0 0 A) [] 0 [(0, .int a1)] []
  have hX : (((((a1 / 100) * 3) + ((a1 / 10) - (a1 / 10) / 10 * 10)) * 4) + (a1 - a1 / 10 * 10)) = r := hX
  refine g_iload_n F dX4_cellOf_0 0 rfl rfl ?_
  refine g_bipush (v := 100) F dX4_cellOf_1 (by decide) ?_
  refine g_idiv F dX4_cellOf_3 (by decide) ?_
  refine g_iconst (v := 3) F dX4_cellOf_4 (by decide) ?_
  refine g_imul F dX4_cellOf_5 ?_
  refine g_iload_n F dX4_cellOf_6 0 rfl rfl ?_
  refine g_bipush (v := 10) F dX4_cellOf_7 (by decide) ?_
  refine g_idiv F dX4_cellOf_9 (by decide) ?_
  refine g_bipush (v := 10) F dX4_cellOf_10 (by decide) ?_
  refine g_irem F dX4_cellOf_12 (by decide) ?_
  refine g_iadd F dX4_cellOf_13 ?_
  refine g_iconst (v := 4) F dX4_cellOf_14 (by decide) ?_
  refine g_imul F dX4_cellOf_15 ?_
  refine g_iload_n F dX4_cellOf_16 0 rfl rfl ?_
  refine g_bipush (v := 10) F dX4_cellOf_17 (by decide) ?_
  refine g_irem F dX4_cellOf_19 (by decide) ?_
  refine g_iadd F dX4_cellOf_20 ?_
  exact g_retS F hr rfl hlk dX4_cellOf_21 hX
theorem callX4_cellOf {p : Program} {l : Launch} {e : Env} {R : Room} {s : State} {m : MethodId} {args : Array Value} {below : List Frame} {meth : Method} {c : Code} {D : va_G} {Y : Nat → ClassId} {A : Nat → Prop} {cc : ByteArray} {nL : Nat} {own : String} {Q : State → Prop} {pc : Nat} {lv : List (Nat × Value)} {rest : List Value} {cells slots : Nat} {ws : va_W} {a1 : Int32} (F : Fx p s m args c D Y A cc nL own) {index : Nat} (hml : Cond.methodLink own index yX4_cellOf ∈ TBL) (hR : 0 + 1 ≤ R.frames ∧ 8 + (1 + 11) + 0 ≤ R.locals) (hcat : (rest.map fun v => v.category).sum ≤ 8) (hd : decode cc pc = .ok (.invokestatic index, 3)) (kk : GW p l e R s m args below meth c D A nL cells slots Q ws (pc + 3) lv (.int (pX4_cellOf a1) :: rest)) (hcs : cells ≤ R.cells ∧ slots ≤ R.slots := by exact ⟨Nat.zero_le _, Nat.zero_le _⟩) : GW p l e R s m args below meth c D A nL cells slots Q ws pc lv (.int a1 :: rest) := g_callS (n := 1) F kX4_cellOf (by unfold mOK; decide +kernel) rfl cd_yX4_cellOf hml st_yX4_cellOf in_X4 hR hcs rfl hcat hd kk
theorem dX6_isWithin_0 : decode cX6_isWithin 0 = .ok (.iload_n 0, 1) := by decide +kernel
theorem dX6_isWithin_1 : decode cX6_isWithin 1 = .ok (.iload_n 1, 1) := by decide +kernel
theorem dX6_isWithin_2 : decode cX6_isWithin 2 = .ok (.if_icmp .lt 12, 3) := by decide +kernel
theorem dX6_isWithin_5 : decode cX6_isWithin 5 = .ok (.iload_n 0, 1) := by decide +kernel
theorem dX6_isWithin_6 : decode cX6_isWithin 6 = .ok (.iload_n 2, 1) := by decide +kernel
theorem dX6_isWithin_7 : decode cX6_isWithin 7 = .ok (.if_icmp .gt 7, 3) := by decide +kernel
theorem dX6_isWithin_10 : decode cX6_isWithin 10 = .ok (.iconst 1, 1) := by decide +kernel
theorem dX6_isWithin_11 : decode cX6_isWithin 11 = .ok (.goto 4, 3) := by decide +kernel
theorem dX6_isWithin_14 : decode cX6_isWithin 14 = .ok (.iconst 0, 1) := by decide +kernel
theorem dX6_isWithin_15 : decode cX6_isWithin 15 = .ok (.ireturn, 1) := by decide +kernel
def pX6_isWithin_b14   : Int32 := 0
def pX6_isWithin (a1 : Int32) (a2 : Int32) (a3 : Int32) : Int32 := if a1 < a2 then (pX6_isWithin_b14) else (if a3 < a1 then (pX6_isWithin_b14) else (1))
set_option maxHeartbeats 4000000 in
set_option maxRecDepth 20000 in
theorem kX6_isWithin {l : Launch} {D : va_G} {Y : Nat → ClassId} {a1 a2 a3 : Int32} : CMi l yX6_isWithin cX6_isWithin 3 (some .boolean) 0 0 D Y [] [] [.int a1, .int a2, .int a3] (pX6_isWithin a1 a2 a3) := by
  obtain ⟨r, hX⟩ : ∃ r, pX6_isWithin a1 a2 a3 = r := ⟨_, rfl⟩
  rw [hX]
  refine cm_ofi (by decide) (Nat.le_of_ble_eq_true rfl) rfl (fun p e s m args below meth c A F hr hlk => ?_)
  show GW p l e { frames := 0, cells := 0, slots := 0, locals := 0 } s m args below meth c D A 3 0 0 (MQ below (QI D [] r A) args s 0 0 A) [] 0 [(0, .int a1), (1, .int a2), (2, .int a3)] []
  have b14 : pX6_isWithin_b14   = r → GW p l e { frames := 0, cells := 0, slots := 0, locals := 0 } s m args below meth c D A 3 0 0 (MQ below (QI D [] r A) args s 0 0 A) [] 14 [] [] := by
    intro   hX
    have hX : (0) = r := hX
    refine g_iconst (v := 0) F dX6_isWithin_14 (by decide) ?_
    exact g_retS F hr rfl hlk dX6_isWithin_15 hX
  have hX : (if a1 < a2 then (pX6_isWithin_b14) else (if a3 < a1 then (pX6_isWithin_b14) else (1))) = r := hX
  refine g_iload_n F dX6_isWithin_0 0 rfl rfl ?_
  refine g_iload_n F dX6_isWithin_1 1 rfl rfl ?_
  refine g_icmp_lt (tgt := 14) F dX6_isWithin_2 (by decide) (fun c1 => ?_) (fun c1 => ?_)
  · have hX := if_t hX c1
    refine g_sub [] rfl ?_
    exact b14  hX
  · have hX := if_f hX c1
    refine g_iload_n F dX6_isWithin_5 0 rfl rfl ?_
    refine g_iload_n F dX6_isWithin_6 2 rfl rfl ?_
    refine g_icmp_gt (tgt := 14) F dX6_isWithin_7 (by decide) (fun c2 => ?_) (fun c2 => ?_)
    · have hX := if_t hX c2
      refine g_sub [] rfl ?_
      exact b14  hX
    · have hX := if_f hX c2
      refine g_iconst (v := 1) F dX6_isWithin_10 (by decide) ?_
      refine g_goto (tgt := 15) F dX6_isWithin_11 (by decide) ?_
      exact g_retS F hr rfl hlk dX6_isWithin_15 hX
theorem b01_X6_isWithin {a1 a2 a3 : Int32} : pX6_isWithin a1 a2 a3 = 0 ∨ pX6_isWithin a1 a2 a3 = 1 := by
  simp only [pX6_isWithin_b14, pX6_isWithin]
  repeat' split
  all_goals first | exact Or.inl rfl | exact Or.inr rfl 
theorem callX6_isWithin {p : Program} {l : Launch} {e : Env} {R : Room} {s : State} {m : MethodId} {args : Array Value} {below : List Frame} {meth : Method} {c : Code} {D : va_G} {Y : Nat → ClassId} {A : Nat → Prop} {cc : ByteArray} {nL : Nat} {own : String} {Q : State → Prop} {pc : Nat} {lv : List (Nat × Value)} {rest : List Value} {cells slots : Nat} {ws : va_W} {a1 a2 a3 : Int32} (F : Fx p s m args c D Y A cc nL own) {index : Nat} (hml : Cond.methodLink own index yX6_isWithin ∈ TBL) (hR : 0 + 1 ≤ R.frames ∧ 8 + (3 + 11) + 0 ≤ R.locals) (hcat : (rest.map fun v => v.category).sum ≤ 8) (hd : decode cc pc = .ok (.invokestatic index, 3)) (kk : GW p l e R s m args below meth c D A nL cells slots Q ws (pc + 3) lv (.int (pX6_isWithin a1 a2 a3) :: rest)) (hcs : cells ≤ R.cells ∧ slots ≤ R.slots := by exact ⟨Nat.zero_le _, Nat.zero_le _⟩) : GW p l e R s m args below meth c D A nL cells slots Q ws pc lv (.int a3 :: .int a2 :: .int a1 :: rest) := g_callS (n := 3) F kX6_isWithin (by unfold mOK; decide +kernel) rfl cd_yX6_isWithin hml st_yX6_isWithin in_X6 hR hcs rfl hcat hd kk
theorem dX6_isBay_0 : decode cX6_isBay 0 = .ok (.iload_n 0, 1) := by decide +kernel
theorem dX6_isBay_1 : decode cX6_isBay 1 = .ok (.ifCond .lt 13, 3) := by decide +kernel
theorem dX6_isBay_4 : decode cX6_isBay 4 = .ok (.iload_n 0, 1) := by decide +kernel
theorem dX6_isBay_5 : decode cX6_isBay 5 = .ok (.bipush 6, 2) := by decide +kernel
theorem dX6_isBay_7 : decode cX6_isBay 7 = .ok (.if_icmp .ge 7, 3) := by decide +kernel
theorem dX6_isBay_10 : decode cX6_isBay 10 = .ok (.iconst 1, 1) := by decide +kernel
theorem dX6_isBay_11 : decode cX6_isBay 11 = .ok (.goto 4, 3) := by decide +kernel
theorem dX6_isBay_14 : decode cX6_isBay 14 = .ok (.iconst 0, 1) := by decide +kernel
theorem dX6_isBay_15 : decode cX6_isBay 15 = .ok (.ireturn, 1) := by decide +kernel
def pX6_isBay_b14   : Int32 := 0
def pX6_isBay (a1 : Int32) : Int32 := if a1 < 0 then (pX6_isBay_b14) else (if 6 ≤ a1 then (pX6_isBay_b14) else (1))
set_option maxHeartbeats 4000000 in
set_option maxRecDepth 20000 in
theorem kX6_isBay {l : Launch} {D : va_G} {Y : Nat → ClassId} {a1 : Int32} : CMi l yX6_isBay cX6_isBay 1 (some .boolean) 0 0 D Y [] [] [.int a1] (pX6_isBay a1) := by
  obtain ⟨r, hX⟩ : ∃ r, pX6_isBay a1 = r := ⟨_, rfl⟩
  rw [hX]
  refine cm_ofi (by decide) (Nat.le_of_ble_eq_true rfl) rfl (fun p e s m args below meth c A F hr hlk => ?_)
  show GW p l e { frames := 0, cells := 0, slots := 0, locals := 0 } s m args below meth c D A 1 0 0 (MQ below (QI D [] r A) args s 0 0 A) [] 0 [(0, .int a1)] []
  have b14 : pX6_isBay_b14   = r → GW p l e { frames := 0, cells := 0, slots := 0, locals := 0 } s m args below meth c D A 1 0 0 (MQ below (QI D [] r A) args s 0 0 A) [] 14 [] [] := by
    intro   hX
    have hX : (0) = r := hX
    refine g_iconst (v := 0) F dX6_isBay_14 (by decide) ?_
    exact g_retS F hr rfl hlk dX6_isBay_15 hX
  have hX : (if a1 < 0 then (pX6_isBay_b14) else (if 6 ≤ a1 then (pX6_isBay_b14) else (1))) = r := hX
  refine g_iload_n F dX6_isBay_0 0 rfl rfl ?_
  refine g_if_lt (tgt := 14) F dX6_isBay_1 (by decide) (fun c1 => ?_) (fun c1 => ?_)
  · have hX := if_t hX c1
    refine g_sub [] rfl ?_
    exact b14  hX
  · have hX := if_f hX c1
    refine g_iload_n F dX6_isBay_4 0 rfl rfl ?_
    refine g_bipush (v := 6) F dX6_isBay_5 (by decide) ?_
    refine g_icmp_ge (tgt := 14) F dX6_isBay_7 (by decide) (fun c2 => ?_) (fun c2 => ?_)
    · have hX := if_t hX c2
      refine g_sub [] rfl ?_
      exact b14  hX
    · have hX := if_f hX c2
      refine g_iconst (v := 1) F dX6_isBay_10 (by decide) ?_
      refine g_goto (tgt := 15) F dX6_isBay_11 (by decide) ?_
      exact g_retS F hr rfl hlk dX6_isBay_15 hX
theorem b01_X6_isBay {a1 : Int32} : pX6_isBay a1 = 0 ∨ pX6_isBay a1 = 1 := by
  simp only [pX6_isBay_b14, pX6_isBay]
  repeat' split
  all_goals first | exact Or.inl rfl | exact Or.inr rfl 
theorem callX6_isBay {p : Program} {l : Launch} {e : Env} {R : Room} {s : State} {m : MethodId} {args : Array Value} {below : List Frame} {meth : Method} {c : Code} {D : va_G} {Y : Nat → ClassId} {A : Nat → Prop} {cc : ByteArray} {nL : Nat} {own : String} {Q : State → Prop} {pc : Nat} {lv : List (Nat × Value)} {rest : List Value} {cells slots : Nat} {ws : va_W} {a1 : Int32} (F : Fx p s m args c D Y A cc nL own) {index : Nat} (hml : Cond.methodLink own index yX6_isBay ∈ TBL) (hR : 0 + 1 ≤ R.frames ∧ 8 + (1 + 11) + 0 ≤ R.locals) (hcat : (rest.map fun v => v.category).sum ≤ 8) (hd : decode cc pc = .ok (.invokestatic index, 3)) (kk : GW p l e R s m args below meth c D A nL cells slots Q ws (pc + 3) lv (.int (pX6_isBay a1) :: rest)) (hcs : cells ≤ R.cells ∧ slots ≤ R.slots := by exact ⟨Nat.zero_le _, Nat.zero_le _⟩) : GW p l e R s m args below meth c D A nL cells slots Q ws pc lv (.int a1 :: rest) := g_callS (n := 1) F kX6_isBay (by unfold mOK; decide +kernel) rfl cd_yX6_isBay hml st_yX6_isBay in_X6 hR hcs rfl hcat hd kk
theorem dX6_bayOf_0 : decode cX6_bayOf 0 = .ok (.iload_n 0, 1) := by decide +kernel
theorem dX6_bayOf_1 : decode cX6_bayOf 1 = .ok (.bipush 100, 2) := by decide +kernel
theorem dX6_bayOf_3 : decode cX6_bayOf 3 = .ok (.idiv, 1) := by decide +kernel
theorem dX6_bayOf_4 : decode cX6_bayOf 4 = .ok (.ireturn, 1) := by decide +kernel
def pX6_bayOf (a1 : Int32) : Int32 := a1 / 100
set_option maxHeartbeats 4000000 in
set_option maxRecDepth 20000 in
theorem kX6_bayOf {l : Launch} {D : va_G} {Y : Nat → ClassId} {a1 : Int32} : CMi l yX6_bayOf cX6_bayOf 1 (some .int) 0 0 D Y [] [] [.int a1] (pX6_bayOf a1) := by
  obtain ⟨r, hX⟩ : ∃ r, pX6_bayOf a1 = r := ⟨_, rfl⟩
  rw [hX]
  refine cm_ofi (by decide) (Nat.le_of_ble_eq_true rfl) rfl (fun p e s m args below meth c A F hr hlk => ?_)
  show GW p l e { frames := 0, cells := 0, slots := 0, locals := 0 } s m args below meth c D A 1 0 0 (MQ below (QI D [] r A) args s 0 0 A) [] 0 [(0, .int a1)] []
  have hX : (a1 / 100) = r := hX
  refine g_iload_n F dX6_bayOf_0 0 rfl rfl ?_
  refine g_bipush (v := 100) F dX6_bayOf_1 (by decide) ?_
  refine g_idiv F dX6_bayOf_3 (by decide) ?_
  exact g_retS F hr rfl hlk dX6_bayOf_4 hX
theorem callX6_bayOf {p : Program} {l : Launch} {e : Env} {R : Room} {s : State} {m : MethodId} {args : Array Value} {below : List Frame} {meth : Method} {c : Code} {D : va_G} {Y : Nat → ClassId} {A : Nat → Prop} {cc : ByteArray} {nL : Nat} {own : String} {Q : State → Prop} {pc : Nat} {lv : List (Nat × Value)} {rest : List Value} {cells slots : Nat} {ws : va_W} {a1 : Int32} (F : Fx p s m args c D Y A cc nL own) {index : Nat} (hml : Cond.methodLink own index yX6_bayOf ∈ TBL) (hR : 0 + 1 ≤ R.frames ∧ 8 + (1 + 11) + 0 ≤ R.locals) (hcat : (rest.map fun v => v.category).sum ≤ 8) (hd : decode cc pc = .ok (.invokestatic index, 3)) (kk : GW p l e R s m args below meth c D A nL cells slots Q ws (pc + 3) lv (.int (pX6_bayOf a1) :: rest)) (hcs : cells ≤ R.cells ∧ slots ≤ R.slots := by exact ⟨Nat.zero_le _, Nat.zero_le _⟩) : GW p l e R s m args below meth c D A nL cells slots Q ws pc lv (.int a1 :: rest) := g_callS (n := 1) F kX6_bayOf (by unfold mOK; decide +kernel) rfl cd_yX6_bayOf hml st_yX6_bayOf in_X6 hR hcs rfl hcat hd kk
theorem callNX6_bayOf {p : Program} {l : Launch} {e : Env} {R : Room} {s : State} {m : MethodId} {args : Array Value} {below : List Frame} {meth : Method} {c : Code} {D : va_G} {Y : Nat → ClassId} {A : Nat → Prop} {cc : ByteArray} {nL : Nat} {own : String} {Q : State → Prop} {pc : Nat} {lv : List (Nat × Value)} {rest : List Value} {cells slots : Nat} {ws : va_W} {a1 : Int32} (F : Fx p s m args c D Y A cc nL own) {host : String} {index : Nat} (hml : va_Nw (.methodLinkNest own index yX6_bayOf host) s) (hR : 0 + 1 ≤ R.frames ∧ 8 + (1 + 11) + 0 ≤ R.locals) (hcat : (rest.map fun v => v.category).sum ≤ 8) (hd : decode cc pc = .ok (.invokestatic index, 3)) (kk : GW p l e R s m args below meth c D A nL cells slots Q ws (pc + 3) lv (.int (pX6_bayOf a1) :: rest)) (hcs : cells ≤ R.cells ∧ slots ≤ R.slots := by exact ⟨Nat.zero_le _, Nat.zero_le _⟩) : GW p l e R s m args below meth c D A nL cells slots Q ws pc lv (.int a1 :: rest) := g_callSN (n := 1) F kX6_bayOf (by unfold mOK; decide +kernel) rfl cd_yX6_bayOf hml st_yX6_bayOf in_X6 hR hcs rfl hcat hd kk
theorem dX6_rowOf_0 : decode cX6_rowOf 0 = .ok (.iload_n 0, 1) := by decide +kernel
theorem dX6_rowOf_1 : decode cX6_rowOf 1 = .ok (.bipush 10, 2) := by decide +kernel
theorem dX6_rowOf_3 : decode cX6_rowOf 3 = .ok (.idiv, 1) := by decide +kernel
theorem dX6_rowOf_4 : decode cX6_rowOf 4 = .ok (.bipush 10, 2) := by decide +kernel
theorem dX6_rowOf_6 : decode cX6_rowOf 6 = .ok (.irem, 1) := by decide +kernel
theorem dX6_rowOf_7 : decode cX6_rowOf 7 = .ok (.ireturn, 1) := by decide +kernel
def pX6_rowOf (a1 : Int32) : Int32 := (a1 / 10) - (a1 / 10) / 10 * 10
set_option maxHeartbeats 4000000 in
set_option maxRecDepth 20000 in
theorem kX6_rowOf {l : Launch} {D : va_G} {Y : Nat → ClassId} {a1 : Int32} : CMi l yX6_rowOf cX6_rowOf 1 (some .int) 0 0 D Y [] [] [.int a1] (pX6_rowOf a1) := by
  obtain ⟨r, hX⟩ : ∃ r, pX6_rowOf a1 = r := ⟨_, rfl⟩
  rw [hX]
  refine cm_ofi (by decide) (Nat.le_of_ble_eq_true rfl) rfl (fun p e s m args below meth c A F hr hlk => ?_)
  show GW p l e { frames := 0, cells := 0, slots := 0, locals := 0 } s m args below meth c D A 1 0 0 (MQ below (QI D [] r A) args s 0 0 A) [] 0 [(0, .int a1)] []
  have hX : ((a1 / 10) - (a1 / 10) / 10 * 10) = r := hX
  refine g_iload_n F dX6_rowOf_0 0 rfl rfl ?_
  refine g_bipush (v := 10) F dX6_rowOf_1 (by decide) ?_
  refine g_idiv F dX6_rowOf_3 (by decide) ?_
  refine g_bipush (v := 10) F dX6_rowOf_4 (by decide) ?_
  refine g_irem F dX6_rowOf_6 (by decide) ?_
  exact g_retS F hr rfl hlk dX6_rowOf_7 hX
theorem callX6_rowOf {p : Program} {l : Launch} {e : Env} {R : Room} {s : State} {m : MethodId} {args : Array Value} {below : List Frame} {meth : Method} {c : Code} {D : va_G} {Y : Nat → ClassId} {A : Nat → Prop} {cc : ByteArray} {nL : Nat} {own : String} {Q : State → Prop} {pc : Nat} {lv : List (Nat × Value)} {rest : List Value} {cells slots : Nat} {ws : va_W} {a1 : Int32} (F : Fx p s m args c D Y A cc nL own) {index : Nat} (hml : Cond.methodLink own index yX6_rowOf ∈ TBL) (hR : 0 + 1 ≤ R.frames ∧ 8 + (1 + 11) + 0 ≤ R.locals) (hcat : (rest.map fun v => v.category).sum ≤ 8) (hd : decode cc pc = .ok (.invokestatic index, 3)) (kk : GW p l e R s m args below meth c D A nL cells slots Q ws (pc + 3) lv (.int (pX6_rowOf a1) :: rest)) (hcs : cells ≤ R.cells ∧ slots ≤ R.slots := by exact ⟨Nat.zero_le _, Nat.zero_le _⟩) : GW p l e R s m args below meth c D A nL cells slots Q ws pc lv (.int a1 :: rest) := g_callS (n := 1) F kX6_rowOf (by unfold mOK; decide +kernel) rfl cd_yX6_rowOf hml st_yX6_rowOf in_X6 hR hcs rfl hcat hd kk
theorem callNX6_rowOf {p : Program} {l : Launch} {e : Env} {R : Room} {s : State} {m : MethodId} {args : Array Value} {below : List Frame} {meth : Method} {c : Code} {D : va_G} {Y : Nat → ClassId} {A : Nat → Prop} {cc : ByteArray} {nL : Nat} {own : String} {Q : State → Prop} {pc : Nat} {lv : List (Nat × Value)} {rest : List Value} {cells slots : Nat} {ws : va_W} {a1 : Int32} (F : Fx p s m args c D Y A cc nL own) {host : String} {index : Nat} (hml : va_Nw (.methodLinkNest own index yX6_rowOf host) s) (hR : 0 + 1 ≤ R.frames ∧ 8 + (1 + 11) + 0 ≤ R.locals) (hcat : (rest.map fun v => v.category).sum ≤ 8) (hd : decode cc pc = .ok (.invokestatic index, 3)) (kk : GW p l e R s m args below meth c D A nL cells slots Q ws (pc + 3) lv (.int (pX6_rowOf a1) :: rest)) (hcs : cells ≤ R.cells ∧ slots ≤ R.slots := by exact ⟨Nat.zero_le _, Nat.zero_le _⟩) : GW p l e R s m args below meth c D A nL cells slots Q ws pc lv (.int a1 :: rest) := g_callSN (n := 1) F kX6_rowOf (by unfold mOK; decide +kernel) rfl cd_yX6_rowOf hml st_yX6_rowOf in_X6 hR hcs rfl hcat hd kk
theorem dX6_tierOf_0 : decode cX6_tierOf 0 = .ok (.iload_n 0, 1) := by decide +kernel
theorem dX6_tierOf_1 : decode cX6_tierOf 1 = .ok (.bipush 10, 2) := by decide +kernel
theorem dX6_tierOf_3 : decode cX6_tierOf 3 = .ok (.irem, 1) := by decide +kernel
theorem dX6_tierOf_4 : decode cX6_tierOf 4 = .ok (.ireturn, 1) := by decide +kernel
def pX6_tierOf (a1 : Int32) : Int32 := a1 - a1 / 10 * 10
set_option maxHeartbeats 4000000 in
set_option maxRecDepth 20000 in
theorem kX6_tierOf {l : Launch} {D : va_G} {Y : Nat → ClassId} {a1 : Int32} : CMi l yX6_tierOf cX6_tierOf 1 (some .int) 0 0 D Y [] [] [.int a1] (pX6_tierOf a1) := by
  obtain ⟨r, hX⟩ : ∃ r, pX6_tierOf a1 = r := ⟨_, rfl⟩
  rw [hX]
  refine cm_ofi (by decide) (Nat.le_of_ble_eq_true rfl) rfl (fun p e s m args below meth c A F hr hlk => ?_)
  show GW p l e { frames := 0, cells := 0, slots := 0, locals := 0 } s m args below meth c D A 1 0 0 (MQ below (QI D [] r A) args s 0 0 A) [] 0 [(0, .int a1)] []
  have hX : (a1 - a1 / 10 * 10) = r := hX
  refine g_iload_n F dX6_tierOf_0 0 rfl rfl ?_
  refine g_bipush (v := 10) F dX6_tierOf_1 (by decide) ?_
  refine g_irem F dX6_tierOf_3 (by decide) ?_
  exact g_retS F hr rfl hlk dX6_tierOf_4 hX
theorem callX6_tierOf {p : Program} {l : Launch} {e : Env} {R : Room} {s : State} {m : MethodId} {args : Array Value} {below : List Frame} {meth : Method} {c : Code} {D : va_G} {Y : Nat → ClassId} {A : Nat → Prop} {cc : ByteArray} {nL : Nat} {own : String} {Q : State → Prop} {pc : Nat} {lv : List (Nat × Value)} {rest : List Value} {cells slots : Nat} {ws : va_W} {a1 : Int32} (F : Fx p s m args c D Y A cc nL own) {index : Nat} (hml : Cond.methodLink own index yX6_tierOf ∈ TBL) (hR : 0 + 1 ≤ R.frames ∧ 8 + (1 + 11) + 0 ≤ R.locals) (hcat : (rest.map fun v => v.category).sum ≤ 8) (hd : decode cc pc = .ok (.invokestatic index, 3)) (kk : GW p l e R s m args below meth c D A nL cells slots Q ws (pc + 3) lv (.int (pX6_tierOf a1) :: rest)) (hcs : cells ≤ R.cells ∧ slots ≤ R.slots := by exact ⟨Nat.zero_le _, Nat.zero_le _⟩) : GW p l e R s m args below meth c D A nL cells slots Q ws pc lv (.int a1 :: rest) := g_callS (n := 1) F kX6_tierOf (by unfold mOK; decide +kernel) rfl cd_yX6_tierOf hml st_yX6_tierOf in_X6 hR hcs rfl hcat hd kk
theorem dX6_isSlot_0 : decode cX6_isSlot 0 = .ok (.iload_n 0, 1) := by decide +kernel
theorem dX6_isSlot_1 : decode cX6_isSlot 1 = .ok (.ifCond .lt 32, 3) := by decide +kernel
theorem dX6_isSlot_4 : decode cX6_isSlot 4 = .ok (.iload_n 0, 1) := by decide +kernel
theorem dX6_isSlot_5 : decode cX6_isSlot 5 = .ok (.invokestatic 283, 3) := by decide +kernel
theorem dX6_isSlot_8 : decode cX6_isSlot 8 = .ok (.bipush 6, 2) := by decide +kernel
theorem dX6_isSlot_10 : decode cX6_isSlot 10 = .ok (.if_icmp .ge 23, 3) := by decide +kernel
theorem dX6_isSlot_13 : decode cX6_isSlot 13 = .ok (.iload_n 0, 1) := by decide +kernel
theorem dX6_isSlot_14 : decode cX6_isSlot 14 = .ok (.invokestatic 280, 3) := by decide +kernel
theorem dX6_isSlot_17 : decode cX6_isSlot 17 = .ok (.iconst 3, 1) := by decide +kernel
theorem dX6_isSlot_18 : decode cX6_isSlot 18 = .ok (.if_icmp .ge 15, 3) := by decide +kernel
theorem dX6_isSlot_21 : decode cX6_isSlot 21 = .ok (.iload_n 0, 1) := by decide +kernel
theorem dX6_isSlot_22 : decode cX6_isSlot 22 = .ok (.invokestatic 309, 3) := by decide +kernel
theorem dX6_isSlot_25 : decode cX6_isSlot 25 = .ok (.iconst 4, 1) := by decide +kernel
theorem dX6_isSlot_26 : decode cX6_isSlot 26 = .ok (.if_icmp .ge 7, 3) := by decide +kernel
theorem dX6_isSlot_29 : decode cX6_isSlot 29 = .ok (.iconst 1, 1) := by decide +kernel
theorem dX6_isSlot_30 : decode cX6_isSlot 30 = .ok (.goto 4, 3) := by decide +kernel
theorem dX6_isSlot_33 : decode cX6_isSlot 33 = .ok (.iconst 0, 1) := by decide +kernel
theorem dX6_isSlot_34 : decode cX6_isSlot 34 = .ok (.ireturn, 1) := by decide +kernel
def pX6_isSlot_b33   : Int32 := 0
def pX6_isSlot (a1 : Int32) : Int32 := if a1 < 0 then (pX6_isSlot_b33) else (if 6 ≤ (pX6_bayOf a1) then (pX6_isSlot_b33) else (if 3 ≤ (pX6_rowOf a1) then (pX6_isSlot_b33) else (if 4 ≤ (pX6_tierOf a1) then (pX6_isSlot_b33) else (1))))
set_option maxHeartbeats 4000000 in
set_option maxRecDepth 20000 in
theorem kX6_isSlot {l : Launch} {D : va_G} {Y : Nat → ClassId} {a1 : Int32} : CMi l yX6_isSlot cX6_isSlot 1 (some .boolean) 1 20 D Y [] [] [.int a1] (pX6_isSlot a1) := by
  obtain ⟨r, hX⟩ : ∃ r, pX6_isSlot a1 = r := ⟨_, rfl⟩
  rw [hX]
  refine cm_ofi (by decide) (Nat.le_of_ble_eq_true rfl) rfl (fun p e s m args below meth c A F hr hlk => ?_)
  show GW p l e { frames := 1, cells := 0, slots := 0, locals := 20 } s m args below meth c D A 1 0 0 (MQ below (QI D [] r A) args s 0 0 A) [] 0 [(0, .int a1)] []
  have b33 : pX6_isSlot_b33   = r → GW p l e { frames := 1, cells := 0, slots := 0, locals := 20 } s m args below meth c D A 1 0 0 (MQ below (QI D [] r A) args s 0 0 A) [] 33 [] [] := by
    intro   hX
    have hX : (0) = r := hX
    refine g_iconst (v := 0) F dX6_isSlot_33 (by decide) ?_
    exact g_retS F hr rfl hlk dX6_isSlot_34 hX
  have hX : (if a1 < 0 then (pX6_isSlot_b33) else (if 6 ≤ (pX6_bayOf a1) then (pX6_isSlot_b33) else (if 3 ≤ (pX6_rowOf a1) then (pX6_isSlot_b33) else (if 4 ≤ (pX6_tierOf a1) then (pX6_isSlot_b33) else (1))))) = r := hX
  refine g_iload_n F dX6_isSlot_0 0 rfl rfl ?_
  refine g_if_lt (tgt := 33) F dX6_isSlot_1 (by decide) (fun c1 => ?_) (fun c1 => ?_)
  · have hX := if_t hX c1
    refine g_sub [] rfl ?_
    exact b33  hX
  · have hX := if_f hX c1
    refine g_iload_n F dX6_isSlot_4 0 rfl rfl ?_
    refine callX6_bayOf F ml_X6_283 ⟨Nat.le_of_ble_eq_true rfl, Nat.le_of_ble_eq_true rfl⟩ (Nat.le_of_ble_eq_true rfl) dX6_isSlot_5 ?_
    refine g_bipush (v := 6) F dX6_isSlot_8 (by decide) ?_
    refine g_icmp_ge (tgt := 33) F dX6_isSlot_10 (by decide) (fun c2 => ?_) (fun c2 => ?_)
    · have hX := if_t hX c2
      refine g_sub [] rfl ?_
      exact b33  hX
    · have hX := if_f hX c2
      refine g_iload_n F dX6_isSlot_13 0 rfl rfl ?_
      refine callX6_rowOf F ml_X6_280 ⟨Nat.le_of_ble_eq_true rfl, Nat.le_of_ble_eq_true rfl⟩ (Nat.le_of_ble_eq_true rfl) dX6_isSlot_14 ?_
      refine g_iconst (v := 3) F dX6_isSlot_17 (by decide) ?_
      refine g_icmp_ge (tgt := 33) F dX6_isSlot_18 (by decide) (fun c3 => ?_) (fun c3 => ?_)
      · have hX := if_t hX c3
        refine g_sub [] rfl ?_
        exact b33  hX
      · have hX := if_f hX c3
        refine g_iload_n F dX6_isSlot_21 0 rfl rfl ?_
        refine callX6_tierOf F ml_X6_309 ⟨Nat.le_of_ble_eq_true rfl, Nat.le_of_ble_eq_true rfl⟩ (Nat.le_of_ble_eq_true rfl) dX6_isSlot_22 ?_
        refine g_iconst (v := 4) F dX6_isSlot_25 (by decide) ?_
        refine g_icmp_ge (tgt := 33) F dX6_isSlot_26 (by decide) (fun c4 => ?_) (fun c4 => ?_)
        · have hX := if_t hX c4
          refine g_sub [] rfl ?_
          exact b33  hX
        · have hX := if_f hX c4
          refine g_iconst (v := 1) F dX6_isSlot_29 (by decide) ?_
          refine g_goto (tgt := 34) F dX6_isSlot_30 (by decide) ?_
          exact g_retS F hr rfl hlk dX6_isSlot_34 hX
theorem b01_X6_isSlot {a1 : Int32} : pX6_isSlot a1 = 0 ∨ pX6_isSlot a1 = 1 := by
  simp only [pX6_isSlot_b33, pX6_isSlot]
  repeat' split
  all_goals first | exact Or.inl rfl | exact Or.inr rfl 
theorem callX6_isSlot {p : Program} {l : Launch} {e : Env} {R : Room} {s : State} {m : MethodId} {args : Array Value} {below : List Frame} {meth : Method} {c : Code} {D : va_G} {Y : Nat → ClassId} {A : Nat → Prop} {cc : ByteArray} {nL : Nat} {own : String} {Q : State → Prop} {pc : Nat} {lv : List (Nat × Value)} {rest : List Value} {cells slots : Nat} {ws : va_W} {a1 : Int32} (F : Fx p s m args c D Y A cc nL own) {index : Nat} (hml : Cond.methodLink own index yX6_isSlot ∈ TBL) (hR : 1 + 1 ≤ R.frames ∧ 8 + (1 + 11) + 20 ≤ R.locals) (hcat : (rest.map fun v => v.category).sum ≤ 8) (hd : decode cc pc = .ok (.invokestatic index, 3)) (kk : GW p l e R s m args below meth c D A nL cells slots Q ws (pc + 3) lv (.int (pX6_isSlot a1) :: rest)) (hcs : cells ≤ R.cells ∧ slots ≤ R.slots := by exact ⟨Nat.zero_le _, Nat.zero_le _⟩) : GW p l e R s m args below meth c D A nL cells slots Q ws pc lv (.int a1 :: rest) := g_callS (n := 1) F kX6_isSlot (by unfold mOK; decide +kernel) rfl cd_yX6_isSlot hml st_yX6_isSlot in_X6 hR hcs rfl hcat hd kk
theorem dX6_isStack_0 : decode cX6_isStack 0 = .ok (.iload_n 0, 1) := by decide +kernel
theorem dX6_isStack_1 : decode cX6_isStack 1 = .ok (.ifCond .lt 13, 3) := by decide +kernel
theorem dX6_isStack_4 : decode cX6_isStack 4 = .ok (.iload_n 0, 1) := by decide +kernel
theorem dX6_isStack_5 : decode cX6_isStack 5 = .ok (.bipush 10, 2) := by decide +kernel
theorem dX6_isStack_7 : decode cX6_isStack 7 = .ok (.if_icmp .ge 7, 3) := by decide +kernel
theorem dX6_isStack_10 : decode cX6_isStack 10 = .ok (.iconst 1, 1) := by decide +kernel
theorem dX6_isStack_11 : decode cX6_isStack 11 = .ok (.goto 4, 3) := by decide +kernel
theorem dX6_isStack_14 : decode cX6_isStack 14 = .ok (.iconst 0, 1) := by decide +kernel
theorem dX6_isStack_15 : decode cX6_isStack 15 = .ok (.ireturn, 1) := by decide +kernel
def pX6_isStack_b14   : Int32 := 0
def pX6_isStack (a1 : Int32) : Int32 := if a1 < 0 then (pX6_isStack_b14) else (if 10 ≤ a1 then (pX6_isStack_b14) else (1))
set_option maxHeartbeats 4000000 in
set_option maxRecDepth 20000 in
theorem kX6_isStack {l : Launch} {D : va_G} {Y : Nat → ClassId} {a1 : Int32} : CMi l yX6_isStack cX6_isStack 1 (some .boolean) 0 0 D Y [] [] [.int a1] (pX6_isStack a1) := by
  obtain ⟨r, hX⟩ : ∃ r, pX6_isStack a1 = r := ⟨_, rfl⟩
  rw [hX]
  refine cm_ofi (by decide) (Nat.le_of_ble_eq_true rfl) rfl (fun p e s m args below meth c A F hr hlk => ?_)
  show GW p l e { frames := 0, cells := 0, slots := 0, locals := 0 } s m args below meth c D A 1 0 0 (MQ below (QI D [] r A) args s 0 0 A) [] 0 [(0, .int a1)] []
  have b14 : pX6_isStack_b14   = r → GW p l e { frames := 0, cells := 0, slots := 0, locals := 0 } s m args below meth c D A 1 0 0 (MQ below (QI D [] r A) args s 0 0 A) [] 14 [] [] := by
    intro   hX
    have hX : (0) = r := hX
    refine g_iconst (v := 0) F dX6_isStack_14 (by decide) ?_
    exact g_retS F hr rfl hlk dX6_isStack_15 hX
  have hX : (if a1 < 0 then (pX6_isStack_b14) else (if 10 ≤ a1 then (pX6_isStack_b14) else (1))) = r := hX
  refine g_iload_n F dX6_isStack_0 0 rfl rfl ?_
  refine g_if_lt (tgt := 14) F dX6_isStack_1 (by decide) (fun c1 => ?_) (fun c1 => ?_)
  · have hX := if_t hX c1
    refine g_sub [] rfl ?_
    exact b14  hX
  · have hX := if_f hX c1
    refine g_iload_n F dX6_isStack_4 0 rfl rfl ?_
    refine g_bipush (v := 10) F dX6_isStack_5 (by decide) ?_
    refine g_icmp_ge (tgt := 14) F dX6_isStack_7 (by decide) (fun c2 => ?_) (fun c2 => ?_)
    · have hX := if_t hX c2
      refine g_sub [] rfl ?_
      exact b14  hX
    · have hX := if_f hX c2
      refine g_iconst (v := 1) F dX6_isStack_10 (by decide) ?_
      refine g_goto (tgt := 15) F dX6_isStack_11 (by decide) ?_
      exact g_retS F hr rfl hlk dX6_isStack_15 hX
theorem b01_X6_isStack {a1 : Int32} : pX6_isStack a1 = 0 ∨ pX6_isStack a1 = 1 := by
  simp only [pX6_isStack_b14, pX6_isStack]
  repeat' split
  all_goals first | exact Or.inl rfl | exact Or.inr rfl 
theorem callX6_isStack {p : Program} {l : Launch} {e : Env} {R : Room} {s : State} {m : MethodId} {args : Array Value} {below : List Frame} {meth : Method} {c : Code} {D : va_G} {Y : Nat → ClassId} {A : Nat → Prop} {cc : ByteArray} {nL : Nat} {own : String} {Q : State → Prop} {pc : Nat} {lv : List (Nat × Value)} {rest : List Value} {cells slots : Nat} {ws : va_W} {a1 : Int32} (F : Fx p s m args c D Y A cc nL own) {index : Nat} (hml : Cond.methodLink own index yX6_isStack ∈ TBL) (hR : 0 + 1 ≤ R.frames ∧ 8 + (1 + 11) + 0 ≤ R.locals) (hcat : (rest.map fun v => v.category).sum ≤ 8) (hd : decode cc pc = .ok (.invokestatic index, 3)) (kk : GW p l e R s m args below meth c D A nL cells slots Q ws (pc + 3) lv (.int (pX6_isStack a1) :: rest)) (hcs : cells ≤ R.cells ∧ slots ≤ R.slots := by exact ⟨Nat.zero_le _, Nat.zero_le _⟩) : GW p l e R s m args below meth c D A nL cells slots Q ws pc lv (.int a1 :: rest) := g_callS (n := 1) F kX6_isStack (by unfold mOK; decide +kernel) rfl cd_yX6_isStack hml st_yX6_isStack in_X6 hR hcs rfl hcat hd kk
theorem dX6_isCrane_0 : decode cX6_isCrane 0 = .ok (.iload_n 0, 1) := by decide +kernel
theorem dX6_isCrane_1 : decode cX6_isCrane 1 = .ok (.ifCond .lt 12, 3) := by decide +kernel
theorem dX6_isCrane_4 : decode cX6_isCrane 4 = .ok (.iload_n 0, 1) := by decide +kernel
theorem dX6_isCrane_5 : decode cX6_isCrane 5 = .ok (.iconst 2, 1) := by decide +kernel
theorem dX6_isCrane_6 : decode cX6_isCrane 6 = .ok (.if_icmp .ge 7, 3) := by decide +kernel
theorem dX6_isCrane_9 : decode cX6_isCrane 9 = .ok (.iconst 1, 1) := by decide +kernel
theorem dX6_isCrane_10 : decode cX6_isCrane 10 = .ok (.goto 4, 3) := by decide +kernel
theorem dX6_isCrane_13 : decode cX6_isCrane 13 = .ok (.iconst 0, 1) := by decide +kernel
theorem dX6_isCrane_14 : decode cX6_isCrane 14 = .ok (.ireturn, 1) := by decide +kernel
def pX6_isCrane_b13   : Int32 := 0
def pX6_isCrane (a1 : Int32) : Int32 := if a1 < 0 then (pX6_isCrane_b13) else (if 2 ≤ a1 then (pX6_isCrane_b13) else (1))
set_option maxHeartbeats 4000000 in
set_option maxRecDepth 20000 in
theorem kX6_isCrane {l : Launch} {D : va_G} {Y : Nat → ClassId} {a1 : Int32} : CMi l yX6_isCrane cX6_isCrane 1 (some .boolean) 0 0 D Y [] [] [.int a1] (pX6_isCrane a1) := by
  obtain ⟨r, hX⟩ : ∃ r, pX6_isCrane a1 = r := ⟨_, rfl⟩
  rw [hX]
  refine cm_ofi (by decide) (Nat.le_of_ble_eq_true rfl) rfl (fun p e s m args below meth c A F hr hlk => ?_)
  show GW p l e { frames := 0, cells := 0, slots := 0, locals := 0 } s m args below meth c D A 1 0 0 (MQ below (QI D [] r A) args s 0 0 A) [] 0 [(0, .int a1)] []
  have b13 : pX6_isCrane_b13   = r → GW p l e { frames := 0, cells := 0, slots := 0, locals := 0 } s m args below meth c D A 1 0 0 (MQ below (QI D [] r A) args s 0 0 A) [] 13 [] [] := by
    intro   hX
    have hX : (0) = r := hX
    refine g_iconst (v := 0) F dX6_isCrane_13 (by decide) ?_
    exact g_retS F hr rfl hlk dX6_isCrane_14 hX
  have hX : (if a1 < 0 then (pX6_isCrane_b13) else (if 2 ≤ a1 then (pX6_isCrane_b13) else (1))) = r := hX
  refine g_iload_n F dX6_isCrane_0 0 rfl rfl ?_
  refine g_if_lt (tgt := 13) F dX6_isCrane_1 (by decide) (fun c1 => ?_) (fun c1 => ?_)
  · have hX := if_t hX c1
    refine g_sub [] rfl ?_
    exact b13  hX
  · have hX := if_f hX c1
    refine g_iload_n F dX6_isCrane_4 0 rfl rfl ?_
    refine g_iconst (v := 2) F dX6_isCrane_5 (by decide) ?_
    refine g_icmp_ge (tgt := 13) F dX6_isCrane_6 (by decide) (fun c2 => ?_) (fun c2 => ?_)
    · have hX := if_t hX c2
      refine g_sub [] rfl ?_
      exact b13  hX
    · have hX := if_f hX c2
      refine g_iconst (v := 1) F dX6_isCrane_9 (by decide) ?_
      refine g_goto (tgt := 14) F dX6_isCrane_10 (by decide) ?_
      exact g_retS F hr rfl hlk dX6_isCrane_14 hX
theorem b01_X6_isCrane {a1 : Int32} : pX6_isCrane a1 = 0 ∨ pX6_isCrane a1 = 1 := by
  simp only [pX6_isCrane_b13, pX6_isCrane]
  repeat' split
  all_goals first | exact Or.inl rfl | exact Or.inr rfl 
theorem callX6_isCrane {p : Program} {l : Launch} {e : Env} {R : Room} {s : State} {m : MethodId} {args : Array Value} {below : List Frame} {meth : Method} {c : Code} {D : va_G} {Y : Nat → ClassId} {A : Nat → Prop} {cc : ByteArray} {nL : Nat} {own : String} {Q : State → Prop} {pc : Nat} {lv : List (Nat × Value)} {rest : List Value} {cells slots : Nat} {ws : va_W} {a1 : Int32} (F : Fx p s m args c D Y A cc nL own) {index : Nat} (hml : Cond.methodLink own index yX6_isCrane ∈ TBL) (hR : 0 + 1 ≤ R.frames ∧ 8 + (1 + 11) + 0 ≤ R.locals) (hcat : (rest.map fun v => v.category).sum ≤ 8) (hd : decode cc pc = .ok (.invokestatic index, 3)) (kk : GW p l e R s m args below meth c D A nL cells slots Q ws (pc + 3) lv (.int (pX6_isCrane a1) :: rest)) (hcs : cells ≤ R.cells ∧ slots ≤ R.slots := by exact ⟨Nat.zero_le _, Nat.zero_le _⟩) : GW p l e R s m args below meth c D A nL cells slots Q ws pc lv (.int a1 :: rest) := g_callS (n := 1) F kX6_isCrane (by unfold mOK; decide +kernel) rfl cd_yX6_isCrane hml st_yX6_isCrane in_X6 hR hcs rfl hcat hd kk
theorem dX6_isUnderHatch_0 : decode cX6_isUnderHatch 0 = .ok (.iload_n 0, 1) := by decide +kernel
theorem dX6_isUnderHatch_1 : decode cX6_isUnderHatch 1 = .ok (.invokestatic 309, 3) := by decide +kernel
theorem dX6_isUnderHatch_4 : decode cX6_isUnderHatch 4 = .ok (.iconst 2, 1) := by decide +kernel
theorem dX6_isUnderHatch_5 : decode cX6_isUnderHatch 5 = .ok (.if_icmp .ge 7, 3) := by decide +kernel
theorem dX6_isUnderHatch_8 : decode cX6_isUnderHatch 8 = .ok (.iconst 1, 1) := by decide +kernel
theorem dX6_isUnderHatch_9 : decode cX6_isUnderHatch 9 = .ok (.goto 4, 3) := by decide +kernel
theorem dX6_isUnderHatch_12 : decode cX6_isUnderHatch 12 = .ok (.iconst 0, 1) := by decide +kernel
theorem dX6_isUnderHatch_13 : decode cX6_isUnderHatch 13 = .ok (.ireturn, 1) := by decide +kernel
def pX6_isUnderHatch (a1 : Int32) : Int32 := if 2 ≤ (pX6_tierOf a1) then (0) else (1)
set_option maxHeartbeats 4000000 in
set_option maxRecDepth 20000 in
theorem kX6_isUnderHatch {l : Launch} {D : va_G} {Y : Nat → ClassId} {a1 : Int32} : CMi l yX6_isUnderHatch cX6_isUnderHatch 1 (some .boolean) 1 20 D Y [] [] [.int a1] (pX6_isUnderHatch a1) := by
  obtain ⟨r, hX⟩ : ∃ r, pX6_isUnderHatch a1 = r := ⟨_, rfl⟩
  rw [hX]
  refine cm_ofi (by decide) (Nat.le_of_ble_eq_true rfl) rfl (fun p e s m args below meth c A F hr hlk => ?_)
  show GW p l e { frames := 1, cells := 0, slots := 0, locals := 20 } s m args below meth c D A 1 0 0 (MQ below (QI D [] r A) args s 0 0 A) [] 0 [(0, .int a1)] []
  have hX : (if 2 ≤ (pX6_tierOf a1) then (0) else (1)) = r := hX
  refine g_iload_n F dX6_isUnderHatch_0 0 rfl rfl ?_
  refine callX6_tierOf F ml_X6_309 ⟨Nat.le_of_ble_eq_true rfl, Nat.le_of_ble_eq_true rfl⟩ (Nat.le_of_ble_eq_true rfl) dX6_isUnderHatch_1 ?_
  refine g_iconst (v := 2) F dX6_isUnderHatch_4 (by decide) ?_
  refine g_icmp_ge (tgt := 12) F dX6_isUnderHatch_5 (by decide) (fun c1 => ?_) (fun c1 => ?_)
  · have hX := if_t hX c1
    refine g_iconst (v := 0) F dX6_isUnderHatch_12 (by decide) ?_
    exact g_retS F hr rfl hlk dX6_isUnderHatch_13 hX
  · have hX := if_f hX c1
    refine g_iconst (v := 1) F dX6_isUnderHatch_8 (by decide) ?_
    refine g_goto (tgt := 13) F dX6_isUnderHatch_9 (by decide) ?_
    exact g_retS F hr rfl hlk dX6_isUnderHatch_13 hX
theorem b01_X6_isUnderHatch {a1 : Int32} : pX6_isUnderHatch a1 = 0 ∨ pX6_isUnderHatch a1 = 1 := by
  simp only [pX6_isUnderHatch]
  repeat' split
  all_goals first | exact Or.inl rfl | exact Or.inr rfl 
theorem callX6_isUnderHatch {p : Program} {l : Launch} {e : Env} {R : Room} {s : State} {m : MethodId} {args : Array Value} {below : List Frame} {meth : Method} {c : Code} {D : va_G} {Y : Nat → ClassId} {A : Nat → Prop} {cc : ByteArray} {nL : Nat} {own : String} {Q : State → Prop} {pc : Nat} {lv : List (Nat × Value)} {rest : List Value} {cells slots : Nat} {ws : va_W} {a1 : Int32} (F : Fx p s m args c D Y A cc nL own) {index : Nat} (hml : Cond.methodLink own index yX6_isUnderHatch ∈ TBL) (hR : 1 + 1 ≤ R.frames ∧ 8 + (1 + 11) + 20 ≤ R.locals) (hcat : (rest.map fun v => v.category).sum ≤ 8) (hd : decode cc pc = .ok (.invokestatic index, 3)) (kk : GW p l e R s m args below meth c D A nL cells slots Q ws (pc + 3) lv (.int (pX6_isUnderHatch a1) :: rest)) (hcs : cells ≤ R.cells ∧ slots ≤ R.slots := by exact ⟨Nat.zero_le _, Nat.zero_le _⟩) : GW p l e R s m args below meth c D A nL cells slots Q ws pc lv (.int a1 :: rest) := g_callS (n := 1) F kX6_isUnderHatch (by unfold mOK; decide +kernel) rfl cd_yX6_isUnderHatch hml st_yX6_isUnderHatch in_X6 hR hcs rfl hcat hd kk
theorem dX6_restsOnBox_0 : decode cX6_restsOnBox 0 = .ok (.iload_n 0, 1) := by decide +kernel
theorem dX6_restsOnBox_1 : decode cX6_restsOnBox 1 = .ok (.invokestatic 309, 3) := by decide +kernel
theorem dX6_restsOnBox_4 : decode cX6_restsOnBox 4 = .ok (.iconst 2, 1) := by decide +kernel
theorem dX6_restsOnBox_5 : decode cX6_restsOnBox 5 = .ok (.irem, 1) := by decide +kernel
theorem dX6_restsOnBox_6 : decode cX6_restsOnBox 6 = .ok (.iconst 1, 1) := by decide +kernel
theorem dX6_restsOnBox_7 : decode cX6_restsOnBox 7 = .ok (.if_icmp .ne 7, 3) := by decide +kernel
theorem dX6_restsOnBox_10 : decode cX6_restsOnBox 10 = .ok (.iconst 1, 1) := by decide +kernel
theorem dX6_restsOnBox_11 : decode cX6_restsOnBox 11 = .ok (.goto 4, 3) := by decide +kernel
theorem dX6_restsOnBox_14 : decode cX6_restsOnBox 14 = .ok (.iconst 0, 1) := by decide +kernel
theorem dX6_restsOnBox_15 : decode cX6_restsOnBox 15 = .ok (.ireturn, 1) := by decide +kernel
def pX6_restsOnBox (a1 : Int32) : Int32 := if ((pX6_tierOf a1) - (pX6_tierOf a1) / 2 * 2) = 1 then (1) else (0)
set_option maxHeartbeats 4000000 in
set_option maxRecDepth 20000 in
theorem kX6_restsOnBox {l : Launch} {D : va_G} {Y : Nat → ClassId} {a1 : Int32} : CMi l yX6_restsOnBox cX6_restsOnBox 1 (some .boolean) 1 20 D Y [] [] [.int a1] (pX6_restsOnBox a1) := by
  obtain ⟨r, hX⟩ : ∃ r, pX6_restsOnBox a1 = r := ⟨_, rfl⟩
  rw [hX]
  refine cm_ofi (by decide) (Nat.le_of_ble_eq_true rfl) rfl (fun p e s m args below meth c A F hr hlk => ?_)
  show GW p l e { frames := 1, cells := 0, slots := 0, locals := 20 } s m args below meth c D A 1 0 0 (MQ below (QI D [] r A) args s 0 0 A) [] 0 [(0, .int a1)] []
  have hX : (if ((pX6_tierOf a1) - (pX6_tierOf a1) / 2 * 2) = 1 then (1) else (0)) = r := hX
  refine g_iload_n F dX6_restsOnBox_0 0 rfl rfl ?_
  refine callX6_tierOf F ml_X6_309 ⟨Nat.le_of_ble_eq_true rfl, Nat.le_of_ble_eq_true rfl⟩ (Nat.le_of_ble_eq_true rfl) dX6_restsOnBox_1 ?_
  refine g_iconst (v := 2) F dX6_restsOnBox_4 (by decide) ?_
  refine g_irem F dX6_restsOnBox_5 (by decide) ?_
  refine g_iconst (v := 1) F dX6_restsOnBox_6 (by decide) ?_
  refine g_icmp_ne (tgt := 14) F dX6_restsOnBox_7 (by decide) (fun c1 => ?_) (fun c1 => ?_)
  · have hX := if_f hX c1
    refine g_iconst (v := 0) F dX6_restsOnBox_14 (by decide) ?_
    exact g_retS F hr rfl hlk dX6_restsOnBox_15 hX
  · have hX := if_t hX c1
    refine g_iconst (v := 1) F dX6_restsOnBox_10 (by decide) ?_
    refine g_goto (tgt := 15) F dX6_restsOnBox_11 (by decide) ?_
    exact g_retS F hr rfl hlk dX6_restsOnBox_15 hX
theorem b01_X6_restsOnBox {a1 : Int32} : pX6_restsOnBox a1 = 0 ∨ pX6_restsOnBox a1 = 1 := by
  simp only [pX6_restsOnBox]
  repeat' split
  all_goals first | exact Or.inl rfl | exact Or.inr rfl 
theorem callX6_restsOnBox {p : Program} {l : Launch} {e : Env} {R : Room} {s : State} {m : MethodId} {args : Array Value} {below : List Frame} {meth : Method} {c : Code} {D : va_G} {Y : Nat → ClassId} {A : Nat → Prop} {cc : ByteArray} {nL : Nat} {own : String} {Q : State → Prop} {pc : Nat} {lv : List (Nat × Value)} {rest : List Value} {cells slots : Nat} {ws : va_W} {a1 : Int32} (F : Fx p s m args c D Y A cc nL own) {index : Nat} (hml : Cond.methodLink own index yX6_restsOnBox ∈ TBL) (hR : 1 + 1 ≤ R.frames ∧ 8 + (1 + 11) + 20 ≤ R.locals) (hcat : (rest.map fun v => v.category).sum ≤ 8) (hd : decode cc pc = .ok (.invokestatic index, 3)) (kk : GW p l e R s m args below meth c D A nL cells slots Q ws (pc + 3) lv (.int (pX6_restsOnBox a1) :: rest)) (hcs : cells ≤ R.cells ∧ slots ≤ R.slots := by exact ⟨Nat.zero_le _, Nat.zero_le _⟩) : GW p l e R s m args below meth c D A nL cells slots Q ws pc lv (.int a1 :: rest) := g_callS (n := 1) F kX6_restsOnBox (by unfold mOK; decide +kernel) rfl cd_yX6_restsOnBox hml st_yX6_restsOnBox in_X6 hR hcs rfl hcat hd kk
theorem callNX6_restsOnBox {p : Program} {l : Launch} {e : Env} {R : Room} {s : State} {m : MethodId} {args : Array Value} {below : List Frame} {meth : Method} {c : Code} {D : va_G} {Y : Nat → ClassId} {A : Nat → Prop} {cc : ByteArray} {nL : Nat} {own : String} {Q : State → Prop} {pc : Nat} {lv : List (Nat × Value)} {rest : List Value} {cells slots : Nat} {ws : va_W} {a1 : Int32} (F : Fx p s m args c D Y A cc nL own) {host : String} {index : Nat} (hml : va_Nw (.methodLinkNest own index yX6_restsOnBox host) s) (hR : 1 + 1 ≤ R.frames ∧ 8 + (1 + 11) + 20 ≤ R.locals) (hcat : (rest.map fun v => v.category).sum ≤ 8) (hd : decode cc pc = .ok (.invokestatic index, 3)) (kk : GW p l e R s m args below meth c D A nL cells slots Q ws (pc + 3) lv (.int (pX6_restsOnBox a1) :: rest)) (hcs : cells ≤ R.cells ∧ slots ≤ R.slots := by exact ⟨Nat.zero_le _, Nat.zero_le _⟩) : GW p l e R s m args below meth c D A nL cells slots Q ws pc lv (.int a1 :: rest) := g_callSN (n := 1) F kX6_restsOnBox (by unfold mOK; decide +kernel) rfl cd_yX6_restsOnBox hml st_yX6_restsOnBox in_X6 hR hcs rfl hcat hd kk
theorem dX6_leverOf_0 : decode cX6_leverOf 0 = .ok (.iload_n 1, 1) := by decide +kernel
theorem dX6_leverOf_1 : decode cX6_leverOf 1 = .ok (.ifCond .ne 9, 3) := by decide +kernel
theorem dX6_leverOf_4 : decode cX6_leverOf 4 = .ok (.iconst 2, 1) := by decide +kernel
theorem dX6_leverOf_5 : decode cX6_leverOf 5 = .ok (.iload_n 0, 1) := by decide +kernel
theorem dX6_leverOf_6 : decode cX6_leverOf 6 = .ok (.imul, 1) := by decide +kernel
theorem dX6_leverOf_7 : decode cX6_leverOf 7 = .ok (.iconst 5, 1) := by decide +kernel
theorem dX6_leverOf_8 : decode cX6_leverOf 8 = .ok (.isub, 1) := by decide +kernel
theorem dX6_leverOf_9 : decode cX6_leverOf 9 = .ok (.ireturn, 1) := by decide +kernel
theorem dX6_leverOf_10 : decode cX6_leverOf 10 = .ok (.iload_n 0, 1) := by decide +kernel
theorem dX6_leverOf_11 : decode cX6_leverOf 11 = .ok (.iload_n 1, 1) := by decide +kernel
theorem dX6_leverOf_12 : decode cX6_leverOf 12 = .ok (.if_icmp .ge 8, 3) := by decide +kernel
theorem dX6_leverOf_15 : decode cX6_leverOf 15 = .ok (.bipush 6, 2) := by decide +kernel
theorem dX6_leverOf_17 : decode cX6_leverOf 17 = .ok (.goto 4, 3) := by decide +kernel
theorem dX6_leverOf_20 : decode cX6_leverOf 20 = .ok (.iconst 0, 1) := by decide +kernel
theorem dX6_leverOf_21 : decode cX6_leverOf 21 = .ok (.iload_n 1, 1) := by decide +kernel
theorem dX6_leverOf_22 : decode cX6_leverOf 22 = .ok (.isub, 1) := by decide +kernel
theorem dX6_leverOf_23 : decode cX6_leverOf 23 = .ok (.ireturn, 1) := by decide +kernel
def pX6_leverOf_b21  (x1 : Int32) (y0 : Int32) : Int32 := y0 - x1
def pX6_leverOf (a1 : Int32) (a2 : Int32) : Int32 := if a2 = 0 then ((2 * a1) - 5) else (if a2 ≤ a1 then (pX6_leverOf_b21 a2 0) else (pX6_leverOf_b21 a2 6))
set_option maxHeartbeats 4000000 in
set_option maxRecDepth 20000 in
theorem kX6_leverOf {l : Launch} {D : va_G} {Y : Nat → ClassId} {a1 a2 : Int32} : CMi l yX6_leverOf cX6_leverOf 2 (some .int) 0 0 D Y [] [] [.int a1, .int a2] (pX6_leverOf a1 a2) := by
  obtain ⟨r, hX⟩ : ∃ r, pX6_leverOf a1 a2 = r := ⟨_, rfl⟩
  rw [hX]
  refine cm_ofi (by decide) (Nat.le_of_ble_eq_true rfl) rfl (fun p e s m args below meth c A F hr hlk => ?_)
  show GW p l e { frames := 0, cells := 0, slots := 0, locals := 0 } s m args below meth c D A 2 0 0 (MQ below (QI D [] r A) args s 0 0 A) [] 0 [(0, .int a1), (1, .int a2)] []
  have b21 : ∀  (x1 : Int32) (y0 : Int32), pX6_leverOf_b21  x1 y0 = r → GW p l e { frames := 0, cells := 0, slots := 0, locals := 0 } s m args below meth c D A 2 0 0 (MQ below (QI D [] r A) args s 0 0 A) [] 21 [(1, .int x1)] [.int y0] := by
    intro  x1 y0 hX
    have hX : (y0 - x1) = r := hX
    refine g_iload_n F dX6_leverOf_21 0 rfl rfl ?_
    refine g_isub F dX6_leverOf_22 ?_
    exact g_retS F hr rfl hlk dX6_leverOf_23 hX
  have hX : (if a2 = 0 then ((2 * a1) - 5) else (if a2 ≤ a1 then (pX6_leverOf_b21 a2 0) else (pX6_leverOf_b21 a2 6))) = r := hX
  refine g_iload_n F dX6_leverOf_0 1 rfl rfl ?_
  refine g_if_ne (tgt := 10) F dX6_leverOf_1 (by decide) (fun c1 => ?_) (fun c1 => ?_)
  · have hX := if_f hX c1
    refine g_iload_n F dX6_leverOf_10 0 rfl rfl ?_
    refine g_iload_n F dX6_leverOf_11 1 rfl rfl ?_
    refine g_icmp_ge (tgt := 20) F dX6_leverOf_12 (by decide) (fun c2 => ?_) (fun c2 => ?_)
    · have hX := if_t hX c2
      refine g_iconst (v := 0) F dX6_leverOf_20 (by decide) ?_
      refine g_sub [1] rfl ?_
      exact b21 a2 0 hX
    · have hX := if_f hX c2
      refine g_bipush (v := 6) F dX6_leverOf_15 (by decide) ?_
      refine g_goto (tgt := 21) F dX6_leverOf_17 (by decide) ?_
      refine g_sub [1] rfl ?_
      exact b21 a2 6 hX
  · have hX := if_t hX c1
    refine g_iconst (v := 2) F dX6_leverOf_4 (by decide) ?_
    refine g_iload_n F dX6_leverOf_5 0 rfl rfl ?_
    refine g_imul F dX6_leverOf_6 ?_
    refine g_iconst (v := 5) F dX6_leverOf_7 (by decide) ?_
    refine g_isub F dX6_leverOf_8 ?_
    exact g_retS F hr rfl hlk dX6_leverOf_9 hX
theorem callX6_leverOf {p : Program} {l : Launch} {e : Env} {R : Room} {s : State} {m : MethodId} {args : Array Value} {below : List Frame} {meth : Method} {c : Code} {D : va_G} {Y : Nat → ClassId} {A : Nat → Prop} {cc : ByteArray} {nL : Nat} {own : String} {Q : State → Prop} {pc : Nat} {lv : List (Nat × Value)} {rest : List Value} {cells slots : Nat} {ws : va_W} {a1 a2 : Int32} (F : Fx p s m args c D Y A cc nL own) {index : Nat} (hml : Cond.methodLink own index yX6_leverOf ∈ TBL) (hR : 0 + 1 ≤ R.frames ∧ 8 + (2 + 11) + 0 ≤ R.locals) (hcat : (rest.map fun v => v.category).sum ≤ 8) (hd : decode cc pc = .ok (.invokestatic index, 3)) (kk : GW p l e R s m args below meth c D A nL cells slots Q ws (pc + 3) lv (.int (pX6_leverOf a1 a2) :: rest)) (hcs : cells ≤ R.cells ∧ slots ≤ R.slots := by exact ⟨Nat.zero_le _, Nat.zero_le _⟩) : GW p l e R s m args below meth c D A nL cells slots Q ws pc lv (.int a2 :: .int a1 :: rest) := g_callS (n := 2) F kX6_leverOf (by unfold mOK; decide +kernel) rfl cd_yX6_leverOf hml st_yX6_leverOf in_X6 hR hcs rfl hcat hd kk
theorem dX7_in_0 : decode cX7_in 0 = .ok (.iload_n 0, 1) := by decide +kernel
theorem dX7_in_1 : decode cX7_in 1 = .ok (.iload_n 1, 1) := by decide +kernel
theorem dX7_in_2 : decode cX7_in 2 = .ok (.if_icmp .lt 12, 3) := by decide +kernel
theorem dX7_in_5 : decode cX7_in 5 = .ok (.iload_n 0, 1) := by decide +kernel
theorem dX7_in_6 : decode cX7_in 6 = .ok (.iload_n 2, 1) := by decide +kernel
theorem dX7_in_7 : decode cX7_in 7 = .ok (.if_icmp .gt 7, 3) := by decide +kernel
theorem dX7_in_10 : decode cX7_in 10 = .ok (.iconst 1, 1) := by decide +kernel
theorem dX7_in_11 : decode cX7_in 11 = .ok (.goto 4, 3) := by decide +kernel
theorem dX7_in_14 : decode cX7_in 14 = .ok (.iconst 0, 1) := by decide +kernel
theorem dX7_in_15 : decode cX7_in 15 = .ok (.ireturn, 1) := by decide +kernel
def pX7_in_b14   : Int32 := 0
def pX7_in (a1 : Int32) (a2 : Int32) (a3 : Int32) : Int32 := if a1 < a2 then (pX7_in_b14) else (if a3 < a1 then (pX7_in_b14) else (1))
set_option maxHeartbeats 4000000 in
set_option maxRecDepth 20000 in
theorem kX7_in {l : Launch} {D : va_G} {Y : Nat → ClassId} {a1 a2 a3 : Int32} : CMi l yX7_in cX7_in 3 (some .boolean) 0 0 D Y [] [] [.int a1, .int a2, .int a3] (pX7_in a1 a2 a3) := by
  obtain ⟨r, hX⟩ : ∃ r, pX7_in a1 a2 a3 = r := ⟨_, rfl⟩
  rw [hX]
  refine cm_ofi (by decide) (Nat.le_of_ble_eq_true rfl) rfl (fun p e s m args below meth c A F hr hlk => ?_)
  show GW p l e { frames := 0, cells := 0, slots := 0, locals := 0 } s m args below meth c D A 3 0 0 (MQ below (QI D [] r A) args s 0 0 A) [] 0 [(0, .int a1), (1, .int a2), (2, .int a3)] []
  have b14 : pX7_in_b14   = r → GW p l e { frames := 0, cells := 0, slots := 0, locals := 0 } s m args below meth c D A 3 0 0 (MQ below (QI D [] r A) args s 0 0 A) [] 14 [] [] := by
    intro   hX
    have hX : (0) = r := hX
    refine g_iconst (v := 0) F dX7_in_14 (by decide) ?_
    exact g_retS F hr rfl hlk dX7_in_15 hX
  have hX : (if a1 < a2 then (pX7_in_b14) else (if a3 < a1 then (pX7_in_b14) else (1))) = r := hX
  refine g_iload_n F dX7_in_0 0 rfl rfl ?_
  refine g_iload_n F dX7_in_1 1 rfl rfl ?_
  refine g_icmp_lt (tgt := 14) F dX7_in_2 (by decide) (fun c1 => ?_) (fun c1 => ?_)
  · have hX := if_t hX c1
    refine g_sub [] rfl ?_
    exact b14  hX
  · have hX := if_f hX c1
    refine g_iload_n F dX7_in_5 0 rfl rfl ?_
    refine g_iload_n F dX7_in_6 2 rfl rfl ?_
    refine g_icmp_gt (tgt := 14) F dX7_in_7 (by decide) (fun c2 => ?_) (fun c2 => ?_)
    · have hX := if_t hX c2
      refine g_sub [] rfl ?_
      exact b14  hX
    · have hX := if_f hX c2
      refine g_iconst (v := 1) F dX7_in_10 (by decide) ?_
      refine g_goto (tgt := 15) F dX7_in_11 (by decide) ?_
      exact g_retS F hr rfl hlk dX7_in_15 hX
theorem b01_X7_in {a1 a2 a3 : Int32} : pX7_in a1 a2 a3 = 0 ∨ pX7_in a1 a2 a3 = 1 := by
  simp only [pX7_in_b14, pX7_in]
  repeat' split
  all_goals first | exact Or.inl rfl | exact Or.inr rfl 
theorem callX7_in {p : Program} {l : Launch} {e : Env} {R : Room} {s : State} {m : MethodId} {args : Array Value} {below : List Frame} {meth : Method} {c : Code} {D : va_G} {Y : Nat → ClassId} {A : Nat → Prop} {cc : ByteArray} {nL : Nat} {own : String} {Q : State → Prop} {pc : Nat} {lv : List (Nat × Value)} {rest : List Value} {cells slots : Nat} {ws : va_W} {a1 a2 a3 : Int32} (F : Fx p s m args c D Y A cc nL own) {index : Nat} (hml : Cond.methodLink own index yX7_in ∈ TBL) (hR : 0 + 1 ≤ R.frames ∧ 8 + (3 + 11) + 0 ≤ R.locals) (hcat : (rest.map fun v => v.category).sum ≤ 8) (hd : decode cc pc = .ok (.invokestatic index, 3)) (kk : GW p l e R s m args below meth c D A nL cells slots Q ws (pc + 3) lv (.int (pX7_in a1 a2 a3) :: rest)) (hcs : cells ≤ R.cells ∧ slots ≤ R.slots := by exact ⟨Nat.zero_le _, Nat.zero_le _⟩) : GW p l e R s m args below meth c D A nL cells slots Q ws pc lv (.int a3 :: .int a2 :: .int a1 :: rest) := g_callS (n := 3) F kX7_in (by unfold mOK; decide +kernel) rfl cd_yX7_in hml st_yX7_in in_X7 hR hcs rfl hcat hd kk
theorem dX7_isSlot_0 : decode cX7_isSlot 0 = .ok (.iload_n 0, 1) := by decide +kernel
theorem dX7_isSlot_1 : decode cX7_isSlot 1 = .ok (.iconst 0, 1) := by decide +kernel
theorem dX7_isSlot_2 : decode cX7_isSlot 2 = .ok (.sipush 523, 3) := by decide +kernel
theorem dX7_isSlot_5 : decode cX7_isSlot 5 = .ok (.invokestatic 90, 3) := by decide +kernel
theorem dX7_isSlot_8 : decode cX7_isSlot 8 = .ok (.ifCond .eq 26, 3) := by decide +kernel
theorem dX7_isSlot_11 : decode cX7_isSlot 11 = .ok (.iload_n 0, 1) := by decide +kernel
theorem dX7_isSlot_12 : decode cX7_isSlot 12 = .ok (.bipush 10, 2) := by decide +kernel
theorem dX7_isSlot_14 : decode cX7_isSlot 14 = .ok (.idiv, 1) := by decide +kernel
theorem dX7_isSlot_15 : decode cX7_isSlot 15 = .ok (.bipush 10, 2) := by decide +kernel
theorem dX7_isSlot_17 : decode cX7_isSlot 17 = .ok (.irem, 1) := by decide +kernel
theorem dX7_isSlot_18 : decode cX7_isSlot 18 = .ok (.iconst 3, 1) := by decide +kernel
theorem dX7_isSlot_19 : decode cX7_isSlot 19 = .ok (.if_icmp .ge 15, 3) := by decide +kernel
theorem dX7_isSlot_22 : decode cX7_isSlot 22 = .ok (.iload_n 0, 1) := by decide +kernel
theorem dX7_isSlot_23 : decode cX7_isSlot 23 = .ok (.bipush 10, 2) := by decide +kernel
theorem dX7_isSlot_25 : decode cX7_isSlot 25 = .ok (.irem, 1) := by decide +kernel
theorem dX7_isSlot_26 : decode cX7_isSlot 26 = .ok (.iconst 4, 1) := by decide +kernel
theorem dX7_isSlot_27 : decode cX7_isSlot 27 = .ok (.if_icmp .ge 7, 3) := by decide +kernel
theorem dX7_isSlot_30 : decode cX7_isSlot 30 = .ok (.iconst 1, 1) := by decide +kernel
theorem dX7_isSlot_31 : decode cX7_isSlot 31 = .ok (.goto 4, 3) := by decide +kernel
theorem dX7_isSlot_34 : decode cX7_isSlot 34 = .ok (.iconst 0, 1) := by decide +kernel
theorem dX7_isSlot_35 : decode cX7_isSlot 35 = .ok (.ireturn, 1) := by decide +kernel
def pX7_isSlot_b34   : Int32 := 0
def pX7_isSlot (a1 : Int32) : Int32 := if (pX7_in a1 0 523) = 0 then (pX7_isSlot_b34) else (if 3 ≤ ((a1 / 10) - (a1 / 10) / 10 * 10) then (pX7_isSlot_b34) else (if 4 ≤ (a1 - a1 / 10 * 10) then (pX7_isSlot_b34) else (1)))
set_option maxHeartbeats 4000000 in
set_option maxRecDepth 20000 in
theorem kX7_isSlot {l : Launch} {D : va_G} {Y : Nat → ClassId} {a1 : Int32} : CMi l yX7_isSlot cX7_isSlot 1 (some .boolean) 1 22 D Y [] [] [.int a1] (pX7_isSlot a1) := by
  obtain ⟨r, hX⟩ : ∃ r, pX7_isSlot a1 = r := ⟨_, rfl⟩
  rw [hX]
  refine cm_ofi (by decide) (Nat.le_of_ble_eq_true rfl) rfl (fun p e s m args below meth c A F hr hlk => ?_)
  show GW p l e { frames := 1, cells := 0, slots := 0, locals := 22 } s m args below meth c D A 1 0 0 (MQ below (QI D [] r A) args s 0 0 A) [] 0 [(0, .int a1)] []
  have b34 : pX7_isSlot_b34   = r → GW p l e { frames := 1, cells := 0, slots := 0, locals := 22 } s m args below meth c D A 1 0 0 (MQ below (QI D [] r A) args s 0 0 A) [] 34 [] [] := by
    intro   hX
    have hX : (0) = r := hX
    refine g_iconst (v := 0) F dX7_isSlot_34 (by decide) ?_
    exact g_retS F hr rfl hlk dX7_isSlot_35 hX
  have hX : (if (pX7_in a1 0 523) = 0 then (pX7_isSlot_b34) else (if 3 ≤ ((a1 / 10) - (a1 / 10) / 10 * 10) then (pX7_isSlot_b34) else (if 4 ≤ (a1 - a1 / 10 * 10) then (pX7_isSlot_b34) else (1)))) = r := hX
  refine g_iload_n F dX7_isSlot_0 0 rfl rfl ?_
  refine g_iconst (v := 0) F dX7_isSlot_1 (by decide) ?_
  refine g_sipush (v := 523) F dX7_isSlot_2 (by decide) ?_
  refine callX7_in F ml_X7_90 ⟨Nat.le_of_ble_eq_true rfl, Nat.le_of_ble_eq_true rfl⟩ (Nat.le_of_ble_eq_true rfl) dX7_isSlot_5 ?_
  refine g_if_eq (tgt := 34) F dX7_isSlot_8 (by decide) (fun c1 => ?_) (fun c1 => ?_)
  · have hX := if_t hX c1
    refine g_sub [] rfl ?_
    exact b34  hX
  · have hX := if_f hX c1
    refine g_iload_n F dX7_isSlot_11 0 rfl rfl ?_
    refine g_bipush (v := 10) F dX7_isSlot_12 (by decide) ?_
    refine g_idiv F dX7_isSlot_14 (by decide) ?_
    refine g_bipush (v := 10) F dX7_isSlot_15 (by decide) ?_
    refine g_irem F dX7_isSlot_17 (by decide) ?_
    refine g_iconst (v := 3) F dX7_isSlot_18 (by decide) ?_
    refine g_icmp_ge (tgt := 34) F dX7_isSlot_19 (by decide) (fun c2 => ?_) (fun c2 => ?_)
    · have hX := if_t hX c2
      refine g_sub [] rfl ?_
      exact b34  hX
    · have hX := if_f hX c2
      refine g_iload_n F dX7_isSlot_22 0 rfl rfl ?_
      refine g_bipush (v := 10) F dX7_isSlot_23 (by decide) ?_
      refine g_irem F dX7_isSlot_25 (by decide) ?_
      refine g_iconst (v := 4) F dX7_isSlot_26 (by decide) ?_
      refine g_icmp_ge (tgt := 34) F dX7_isSlot_27 (by decide) (fun c3 => ?_) (fun c3 => ?_)
      · have hX := if_t hX c3
        refine g_sub [] rfl ?_
        exact b34  hX
      · have hX := if_f hX c3
        refine g_iconst (v := 1) F dX7_isSlot_30 (by decide) ?_
        refine g_goto (tgt := 35) F dX7_isSlot_31 (by decide) ?_
        exact g_retS F hr rfl hlk dX7_isSlot_35 hX
theorem b01_X7_isSlot {a1 : Int32} : pX7_isSlot a1 = 0 ∨ pX7_isSlot a1 = 1 := by
  simp only [pX7_isSlot_b34, pX7_isSlot]
  repeat' split
  all_goals first | exact Or.inl rfl | exact Or.inr rfl | exact b01_X7_in
theorem callX7_isSlot {p : Program} {l : Launch} {e : Env} {R : Room} {s : State} {m : MethodId} {args : Array Value} {below : List Frame} {meth : Method} {c : Code} {D : va_G} {Y : Nat → ClassId} {A : Nat → Prop} {cc : ByteArray} {nL : Nat} {own : String} {Q : State → Prop} {pc : Nat} {lv : List (Nat × Value)} {rest : List Value} {cells slots : Nat} {ws : va_W} {a1 : Int32} (F : Fx p s m args c D Y A cc nL own) {index : Nat} (hml : Cond.methodLink own index yX7_isSlot ∈ TBL) (hR : 1 + 1 ≤ R.frames ∧ 8 + (1 + 11) + 22 ≤ R.locals) (hcat : (rest.map fun v => v.category).sum ≤ 8) (hd : decode cc pc = .ok (.invokestatic index, 3)) (kk : GW p l e R s m args below meth c D A nL cells slots Q ws (pc + 3) lv (.int (pX7_isSlot a1) :: rest)) (hcs : cells ≤ R.cells ∧ slots ≤ R.slots := by exact ⟨Nat.zero_le _, Nat.zero_le _⟩) : GW p l e R s m args below meth c D A nL cells slots Q ws pc lv (.int a1 :: rest) := g_callS (n := 1) F kX7_isSlot (by unfold mOK; decide +kernel) rfl cd_yX7_isSlot hml st_yX7_isSlot in_X7 hR hcs rfl hcat hd kk
theorem dX7_indexOf_0 : decode cX7_indexOf 0 = .ok (.bipush 12, 2) := by decide +kernel
theorem dX7_indexOf_2 : decode cX7_indexOf 2 = .ok (.iload_n 0, 1) := by decide +kernel
theorem dX7_indexOf_3 : decode cX7_indexOf 3 = .ok (.bipush 100, 2) := by decide +kernel
theorem dX7_indexOf_5 : decode cX7_indexOf 5 = .ok (.idiv, 1) := by decide +kernel
theorem dX7_indexOf_6 : decode cX7_indexOf 6 = .ok (.imul, 1) := by decide +kernel
theorem dX7_indexOf_7 : decode cX7_indexOf 7 = .ok (.iconst 4, 1) := by decide +kernel
theorem dX7_indexOf_8 : decode cX7_indexOf 8 = .ok (.iload_n 0, 1) := by decide +kernel
theorem dX7_indexOf_9 : decode cX7_indexOf 9 = .ok (.bipush 10, 2) := by decide +kernel
theorem dX7_indexOf_11 : decode cX7_indexOf 11 = .ok (.idiv, 1) := by decide +kernel
theorem dX7_indexOf_12 : decode cX7_indexOf 12 = .ok (.bipush 10, 2) := by decide +kernel
theorem dX7_indexOf_14 : decode cX7_indexOf 14 = .ok (.irem, 1) := by decide +kernel
theorem dX7_indexOf_15 : decode cX7_indexOf 15 = .ok (.imul, 1) := by decide +kernel
theorem dX7_indexOf_16 : decode cX7_indexOf 16 = .ok (.iadd, 1) := by decide +kernel
theorem dX7_indexOf_17 : decode cX7_indexOf 17 = .ok (.iload_n 0, 1) := by decide +kernel
theorem dX7_indexOf_18 : decode cX7_indexOf 18 = .ok (.bipush 10, 2) := by decide +kernel
theorem dX7_indexOf_20 : decode cX7_indexOf 20 = .ok (.irem, 1) := by decide +kernel
theorem dX7_indexOf_21 : decode cX7_indexOf 21 = .ok (.iadd, 1) := by decide +kernel
theorem dX7_indexOf_22 : decode cX7_indexOf 22 = .ok (.ireturn, 1) := by decide +kernel
def pX7_indexOf (a1 : Int32) : Int32 := ((12 * (a1 / 100)) + (4 * ((a1 / 10) - (a1 / 10) / 10 * 10))) + (a1 - a1 / 10 * 10)
set_option maxHeartbeats 4000000 in
set_option maxRecDepth 20000 in
theorem kX7_indexOf {l : Launch} {D : va_G} {Y : Nat → ClassId} {a1 : Int32} : CMi l yX7_indexOf cX7_indexOf 1 (some .int) 0 0 D Y [] [] [.int a1] (pX7_indexOf a1) := by
  obtain ⟨r, hX⟩ : ∃ r, pX7_indexOf a1 = r := ⟨_, rfl⟩
  rw [hX]
  refine cm_ofi (by decide) (Nat.le_of_ble_eq_true rfl) rfl (fun p e s m args below meth c A F hr hlk => ?_)
  show GW p l e { frames := 0, cells := 0, slots := 0, locals := 0 } s m args below meth c D A 1 0 0 (MQ below (QI D [] r A) args s 0 0 A) [] 0 [(0, .int a1)] []
  have hX : (((12 * (a1 / 100)) + (4 * ((a1 / 10) - (a1 / 10) / 10 * 10))) + (a1 - a1 / 10 * 10)) = r := hX
  refine g_bipush (v := 12) F dX7_indexOf_0 (by decide) ?_
  refine g_iload_n F dX7_indexOf_2 0 rfl rfl ?_
  refine g_bipush (v := 100) F dX7_indexOf_3 (by decide) ?_
  refine g_idiv F dX7_indexOf_5 (by decide) ?_
  refine g_imul F dX7_indexOf_6 ?_
  refine g_iconst (v := 4) F dX7_indexOf_7 (by decide) ?_
  refine g_iload_n F dX7_indexOf_8 0 rfl rfl ?_
  refine g_bipush (v := 10) F dX7_indexOf_9 (by decide) ?_
  refine g_idiv F dX7_indexOf_11 (by decide) ?_
  refine g_bipush (v := 10) F dX7_indexOf_12 (by decide) ?_
  refine g_irem F dX7_indexOf_14 (by decide) ?_
  refine g_imul F dX7_indexOf_15 ?_
  refine g_iadd F dX7_indexOf_16 ?_
  refine g_iload_n F dX7_indexOf_17 0 rfl rfl ?_
  refine g_bipush (v := 10) F dX7_indexOf_18 (by decide) ?_
  refine g_irem F dX7_indexOf_20 (by decide) ?_
  refine g_iadd F dX7_indexOf_21 ?_
  exact g_retS F hr rfl hlk dX7_indexOf_22 hX
theorem callX7_indexOf {p : Program} {l : Launch} {e : Env} {R : Room} {s : State} {m : MethodId} {args : Array Value} {below : List Frame} {meth : Method} {c : Code} {D : va_G} {Y : Nat → ClassId} {A : Nat → Prop} {cc : ByteArray} {nL : Nat} {own : String} {Q : State → Prop} {pc : Nat} {lv : List (Nat × Value)} {rest : List Value} {cells slots : Nat} {ws : va_W} {a1 : Int32} (F : Fx p s m args c D Y A cc nL own) {index : Nat} (hml : Cond.methodLink own index yX7_indexOf ∈ TBL) (hR : 0 + 1 ≤ R.frames ∧ 8 + (1 + 11) + 0 ≤ R.locals) (hcat : (rest.map fun v => v.category).sum ≤ 8) (hd : decode cc pc = .ok (.invokestatic index, 3)) (kk : GW p l e R s m args below meth c D A nL cells slots Q ws (pc + 3) lv (.int (pX7_indexOf a1) :: rest)) (hcs : cells ≤ R.cells ∧ slots ≤ R.slots := by exact ⟨Nat.zero_le _, Nat.zero_le _⟩) : GW p l e R s m args below meth c D A nL cells slots Q ws pc lv (.int a1 :: rest) := g_callS (n := 1) F kX7_indexOf (by unfold mOK; decide +kernel) rfl cd_yX7_indexOf hml st_yX7_indexOf in_X7 hR hcs rfl hcat hd kk
theorem dX7_isBay_0 : decode cX7_isBay 0 = .ok (.iload_n 0, 1) := by decide +kernel
theorem dX7_isBay_1 : decode cX7_isBay 1 = .ok (.iconst 0, 1) := by decide +kernel
theorem dX7_isBay_2 : decode cX7_isBay 2 = .ok (.iconst 5, 1) := by decide +kernel
theorem dX7_isBay_3 : decode cX7_isBay 3 = .ok (.invokestatic 90, 3) := by decide +kernel
theorem dX7_isBay_6 : decode cX7_isBay 6 = .ok (.ireturn, 1) := by decide +kernel
def pX7_isBay (a1 : Int32) : Int32 := pX7_in a1 0 5
set_option maxHeartbeats 4000000 in
set_option maxRecDepth 20000 in
theorem kX7_isBay {l : Launch} {D : va_G} {Y : Nat → ClassId} {a1 : Int32} : CMi l yX7_isBay cX7_isBay 1 (some .boolean) 1 22 D Y [] [] [.int a1] (pX7_isBay a1) := by
  obtain ⟨r, hX⟩ : ∃ r, pX7_isBay a1 = r := ⟨_, rfl⟩
  rw [hX]
  refine cm_ofi (by decide) (Nat.le_of_ble_eq_true rfl) rfl (fun p e s m args below meth c A F hr hlk => ?_)
  show GW p l e { frames := 1, cells := 0, slots := 0, locals := 22 } s m args below meth c D A 1 0 0 (MQ below (QI D [] r A) args s 0 0 A) [] 0 [(0, .int a1)] []
  have hX : (pX7_in a1 0 5) = r := hX
  refine g_iload_n F dX7_isBay_0 0 rfl rfl ?_
  refine g_iconst (v := 0) F dX7_isBay_1 (by decide) ?_
  refine g_iconst (v := 5) F dX7_isBay_2 (by decide) ?_
  refine callX7_in F ml_X7_90 ⟨Nat.le_of_ble_eq_true rfl, Nat.le_of_ble_eq_true rfl⟩ (Nat.le_of_ble_eq_true rfl) dX7_isBay_3 ?_
  exact g_retS F hr (nar01 b01_X7_in) hlk dX7_isBay_6 hX
theorem b01_X7_isBay {a1 : Int32} : pX7_isBay a1 = 0 ∨ pX7_isBay a1 = 1 := by
  simp only [pX7_isBay]
  repeat' split
  all_goals first | exact Or.inl rfl | exact Or.inr rfl | exact b01_X7_in
theorem callX7_isBay {p : Program} {l : Launch} {e : Env} {R : Room} {s : State} {m : MethodId} {args : Array Value} {below : List Frame} {meth : Method} {c : Code} {D : va_G} {Y : Nat → ClassId} {A : Nat → Prop} {cc : ByteArray} {nL : Nat} {own : String} {Q : State → Prop} {pc : Nat} {lv : List (Nat × Value)} {rest : List Value} {cells slots : Nat} {ws : va_W} {a1 : Int32} (F : Fx p s m args c D Y A cc nL own) {index : Nat} (hml : Cond.methodLink own index yX7_isBay ∈ TBL) (hR : 1 + 1 ≤ R.frames ∧ 8 + (1 + 11) + 22 ≤ R.locals) (hcat : (rest.map fun v => v.category).sum ≤ 8) (hd : decode cc pc = .ok (.invokestatic index, 3)) (kk : GW p l e R s m args below meth c D A nL cells slots Q ws (pc + 3) lv (.int (pX7_isBay a1) :: rest)) (hcs : cells ≤ R.cells ∧ slots ≤ R.slots := by exact ⟨Nat.zero_le _, Nat.zero_le _⟩) : GW p l e R s m args below meth c D A nL cells slots Q ws pc lv (.int a1 :: rest) := g_callS (n := 1) F kX7_isBay (by unfold mOK; decide +kernel) rfl cd_yX7_isBay hml st_yX7_isBay in_X7 hR hcs rfl hcat hd kk
theorem dX7_isStack_0 : decode cX7_isStack 0 = .ok (.iload_n 0, 1) := by decide +kernel
theorem dX7_isStack_1 : decode cX7_isStack 1 = .ok (.iconst 0, 1) := by decide +kernel
theorem dX7_isStack_2 : decode cX7_isStack 2 = .ok (.bipush 9, 2) := by decide +kernel
theorem dX7_isStack_4 : decode cX7_isStack 4 = .ok (.invokestatic 90, 3) := by decide +kernel
theorem dX7_isStack_7 : decode cX7_isStack 7 = .ok (.ireturn, 1) := by decide +kernel
def pX7_isStack (a1 : Int32) : Int32 := pX7_in a1 0 9
set_option maxHeartbeats 4000000 in
set_option maxRecDepth 20000 in
theorem kX7_isStack {l : Launch} {D : va_G} {Y : Nat → ClassId} {a1 : Int32} : CMi l yX7_isStack cX7_isStack 1 (some .boolean) 1 22 D Y [] [] [.int a1] (pX7_isStack a1) := by
  obtain ⟨r, hX⟩ : ∃ r, pX7_isStack a1 = r := ⟨_, rfl⟩
  rw [hX]
  refine cm_ofi (by decide) (Nat.le_of_ble_eq_true rfl) rfl (fun p e s m args below meth c A F hr hlk => ?_)
  show GW p l e { frames := 1, cells := 0, slots := 0, locals := 22 } s m args below meth c D A 1 0 0 (MQ below (QI D [] r A) args s 0 0 A) [] 0 [(0, .int a1)] []
  have hX : (pX7_in a1 0 9) = r := hX
  refine g_iload_n F dX7_isStack_0 0 rfl rfl ?_
  refine g_iconst (v := 0) F dX7_isStack_1 (by decide) ?_
  refine g_bipush (v := 9) F dX7_isStack_2 (by decide) ?_
  refine callX7_in F ml_X7_90 ⟨Nat.le_of_ble_eq_true rfl, Nat.le_of_ble_eq_true rfl⟩ (Nat.le_of_ble_eq_true rfl) dX7_isStack_4 ?_
  exact g_retS F hr (nar01 b01_X7_in) hlk dX7_isStack_7 hX
theorem b01_X7_isStack {a1 : Int32} : pX7_isStack a1 = 0 ∨ pX7_isStack a1 = 1 := by
  simp only [pX7_isStack]
  repeat' split
  all_goals first | exact Or.inl rfl | exact Or.inr rfl | exact b01_X7_in
theorem callX7_isStack {p : Program} {l : Launch} {e : Env} {R : Room} {s : State} {m : MethodId} {args : Array Value} {below : List Frame} {meth : Method} {c : Code} {D : va_G} {Y : Nat → ClassId} {A : Nat → Prop} {cc : ByteArray} {nL : Nat} {own : String} {Q : State → Prop} {pc : Nat} {lv : List (Nat × Value)} {rest : List Value} {cells slots : Nat} {ws : va_W} {a1 : Int32} (F : Fx p s m args c D Y A cc nL own) {index : Nat} (hml : Cond.methodLink own index yX7_isStack ∈ TBL) (hR : 1 + 1 ≤ R.frames ∧ 8 + (1 + 11) + 22 ≤ R.locals) (hcat : (rest.map fun v => v.category).sum ≤ 8) (hd : decode cc pc = .ok (.invokestatic index, 3)) (kk : GW p l e R s m args below meth c D A nL cells slots Q ws (pc + 3) lv (.int (pX7_isStack a1) :: rest)) (hcs : cells ≤ R.cells ∧ slots ≤ R.slots := by exact ⟨Nat.zero_le _, Nat.zero_le _⟩) : GW p l e R s m args below meth c D A nL cells slots Q ws pc lv (.int a1 :: rest) := g_callS (n := 1) F kX7_isStack (by unfold mOK; decide +kernel) rfl cd_yX7_isStack hml st_yX7_isStack in_X7 hR hcs rfl hcat hd kk
theorem dX7_isCrane_0 : decode cX7_isCrane 0 = .ok (.iload_n 0, 1) := by decide +kernel
theorem dX7_isCrane_1 : decode cX7_isCrane 1 = .ok (.iconst 0, 1) := by decide +kernel
theorem dX7_isCrane_2 : decode cX7_isCrane 2 = .ok (.iconst 1, 1) := by decide +kernel
theorem dX7_isCrane_3 : decode cX7_isCrane 3 = .ok (.invokestatic 90, 3) := by decide +kernel
theorem dX7_isCrane_6 : decode cX7_isCrane 6 = .ok (.ireturn, 1) := by decide +kernel
def pX7_isCrane (a1 : Int32) : Int32 := pX7_in a1 0 1
set_option maxHeartbeats 4000000 in
set_option maxRecDepth 20000 in
theorem kX7_isCrane {l : Launch} {D : va_G} {Y : Nat → ClassId} {a1 : Int32} : CMi l yX7_isCrane cX7_isCrane 1 (some .boolean) 1 22 D Y [] [] [.int a1] (pX7_isCrane a1) := by
  obtain ⟨r, hX⟩ : ∃ r, pX7_isCrane a1 = r := ⟨_, rfl⟩
  rw [hX]
  refine cm_ofi (by decide) (Nat.le_of_ble_eq_true rfl) rfl (fun p e s m args below meth c A F hr hlk => ?_)
  show GW p l e { frames := 1, cells := 0, slots := 0, locals := 22 } s m args below meth c D A 1 0 0 (MQ below (QI D [] r A) args s 0 0 A) [] 0 [(0, .int a1)] []
  have hX : (pX7_in a1 0 1) = r := hX
  refine g_iload_n F dX7_isCrane_0 0 rfl rfl ?_
  refine g_iconst (v := 0) F dX7_isCrane_1 (by decide) ?_
  refine g_iconst (v := 1) F dX7_isCrane_2 (by decide) ?_
  refine callX7_in F ml_X7_90 ⟨Nat.le_of_ble_eq_true rfl, Nat.le_of_ble_eq_true rfl⟩ (Nat.le_of_ble_eq_true rfl) dX7_isCrane_3 ?_
  exact g_retS F hr (nar01 b01_X7_in) hlk dX7_isCrane_6 hX
theorem b01_X7_isCrane {a1 : Int32} : pX7_isCrane a1 = 0 ∨ pX7_isCrane a1 = 1 := by
  simp only [pX7_isCrane]
  repeat' split
  all_goals first | exact Or.inl rfl | exact Or.inr rfl | exact b01_X7_in
theorem callX7_isCrane {p : Program} {l : Launch} {e : Env} {R : Room} {s : State} {m : MethodId} {args : Array Value} {below : List Frame} {meth : Method} {c : Code} {D : va_G} {Y : Nat → ClassId} {A : Nat → Prop} {cc : ByteArray} {nL : Nat} {own : String} {Q : State → Prop} {pc : Nat} {lv : List (Nat × Value)} {rest : List Value} {cells slots : Nat} {ws : va_W} {a1 : Int32} (F : Fx p s m args c D Y A cc nL own) {index : Nat} (hml : Cond.methodLink own index yX7_isCrane ∈ TBL) (hR : 1 + 1 ≤ R.frames ∧ 8 + (1 + 11) + 22 ≤ R.locals) (hcat : (rest.map fun v => v.category).sum ≤ 8) (hd : decode cc pc = .ok (.invokestatic index, 3)) (kk : GW p l e R s m args below meth c D A nL cells slots Q ws (pc + 3) lv (.int (pX7_isCrane a1) :: rest)) (hcs : cells ≤ R.cells ∧ slots ≤ R.slots := by exact ⟨Nat.zero_le _, Nat.zero_le _⟩) : GW p l e R s m args below meth c D A nL cells slots Q ws pc lv (.int a1 :: rest) := g_callS (n := 1) F kX7_isCrane (by unfold mOK; decide +kernel) rfl cd_yX7_isCrane hml st_yX7_isCrane in_X7 hR hcs rfl hcat hd kk
theorem dX7_slotOf_0 : decode cX7_slotOf 0 = .ok (.bipush 100, 2) := by decide +kernel
theorem dX7_slotOf_2 : decode cX7_slotOf 2 = .ok (.iload_n 0, 1) := by decide +kernel
theorem dX7_slotOf_3 : decode cX7_slotOf 3 = .ok (.bipush 12, 2) := by decide +kernel
theorem dX7_slotOf_5 : decode cX7_slotOf 5 = .ok (.idiv, 1) := by decide +kernel
theorem dX7_slotOf_6 : decode cX7_slotOf 6 = .ok (.imul, 1) := by decide +kernel
theorem dX7_slotOf_7 : decode cX7_slotOf 7 = .ok (.bipush 10, 2) := by decide +kernel
theorem dX7_slotOf_9 : decode cX7_slotOf 9 = .ok (.iload_n 0, 1) := by decide +kernel
theorem dX7_slotOf_10 : decode cX7_slotOf 10 = .ok (.iconst 4, 1) := by decide +kernel
theorem dX7_slotOf_11 : decode cX7_slotOf 11 = .ok (.idiv, 1) := by decide +kernel
theorem dX7_slotOf_12 : decode cX7_slotOf 12 = .ok (.iconst 3, 1) := by decide +kernel
theorem dX7_slotOf_13 : decode cX7_slotOf 13 = .ok (.irem, 1) := by decide +kernel
theorem dX7_slotOf_14 : decode cX7_slotOf 14 = .ok (.imul, 1) := by decide +kernel
theorem dX7_slotOf_15 : decode cX7_slotOf 15 = .ok (.iadd, 1) := by decide +kernel
theorem dX7_slotOf_16 : decode cX7_slotOf 16 = .ok (.iload_n 0, 1) := by decide +kernel
theorem dX7_slotOf_17 : decode cX7_slotOf 17 = .ok (.iconst 4, 1) := by decide +kernel
theorem dX7_slotOf_18 : decode cX7_slotOf 18 = .ok (.irem, 1) := by decide +kernel
theorem dX7_slotOf_19 : decode cX7_slotOf 19 = .ok (.iadd, 1) := by decide +kernel
theorem dX7_slotOf_20 : decode cX7_slotOf 20 = .ok (.ireturn, 1) := by decide +kernel
def pX7_slotOf (a1 : Int32) : Int32 := ((100 * (a1 / 12)) + (10 * ((a1 / 4) - (a1 / 4) / 3 * 3))) + (a1 - a1 / 4 * 4)
set_option maxHeartbeats 4000000 in
set_option maxRecDepth 20000 in
theorem kX7_slotOf {l : Launch} {D : va_G} {Y : Nat → ClassId} {a1 : Int32} : CMi l yX7_slotOf cX7_slotOf 1 (some .int) 0 0 D Y [] [] [.int a1] (pX7_slotOf a1) := by
  obtain ⟨r, hX⟩ : ∃ r, pX7_slotOf a1 = r := ⟨_, rfl⟩
  rw [hX]
  refine cm_ofi (by decide) (Nat.le_of_ble_eq_true rfl) rfl (fun p e s m args below meth c A F hr hlk => ?_)
  show GW p l e { frames := 0, cells := 0, slots := 0, locals := 0 } s m args below meth c D A 1 0 0 (MQ below (QI D [] r A) args s 0 0 A) [] 0 [(0, .int a1)] []
  have hX : (((100 * (a1 / 12)) + (10 * ((a1 / 4) - (a1 / 4) / 3 * 3))) + (a1 - a1 / 4 * 4)) = r := hX
  refine g_bipush (v := 100) F dX7_slotOf_0 (by decide) ?_
  refine g_iload_n F dX7_slotOf_2 0 rfl rfl ?_
  refine g_bipush (v := 12) F dX7_slotOf_3 (by decide) ?_
  refine g_idiv F dX7_slotOf_5 (by decide) ?_
  refine g_imul F dX7_slotOf_6 ?_
  refine g_bipush (v := 10) F dX7_slotOf_7 (by decide) ?_
  refine g_iload_n F dX7_slotOf_9 0 rfl rfl ?_
  refine g_iconst (v := 4) F dX7_slotOf_10 (by decide) ?_
  refine g_idiv F dX7_slotOf_11 (by decide) ?_
  refine g_iconst (v := 3) F dX7_slotOf_12 (by decide) ?_
  refine g_irem F dX7_slotOf_13 (by decide) ?_
  refine g_imul F dX7_slotOf_14 ?_
  refine g_iadd F dX7_slotOf_15 ?_
  refine g_iload_n F dX7_slotOf_16 0 rfl rfl ?_
  refine g_iconst (v := 4) F dX7_slotOf_17 (by decide) ?_
  refine g_irem F dX7_slotOf_18 (by decide) ?_
  refine g_iadd F dX7_slotOf_19 ?_
  exact g_retS F hr rfl hlk dX7_slotOf_20 hX
theorem callX7_slotOf {p : Program} {l : Launch} {e : Env} {R : Room} {s : State} {m : MethodId} {args : Array Value} {below : List Frame} {meth : Method} {c : Code} {D : va_G} {Y : Nat → ClassId} {A : Nat → Prop} {cc : ByteArray} {nL : Nat} {own : String} {Q : State → Prop} {pc : Nat} {lv : List (Nat × Value)} {rest : List Value} {cells slots : Nat} {ws : va_W} {a1 : Int32} (F : Fx p s m args c D Y A cc nL own) {index : Nat} (hml : Cond.methodLink own index yX7_slotOf ∈ TBL) (hR : 0 + 1 ≤ R.frames ∧ 8 + (1 + 11) + 0 ≤ R.locals) (hcat : (rest.map fun v => v.category).sum ≤ 8) (hd : decode cc pc = .ok (.invokestatic index, 3)) (kk : GW p l e R s m args below meth c D A nL cells slots Q ws (pc + 3) lv (.int (pX7_slotOf a1) :: rest)) (hcs : cells ≤ R.cells ∧ slots ≤ R.slots := by exact ⟨Nat.zero_le _, Nat.zero_le _⟩) : GW p l e R s m args below meth c D A nL cells slots Q ws pc lv (.int a1 :: rest) := g_callS (n := 1) F kX7_slotOf (by unfold mOK; decide +kernel) rfl cd_yX7_slotOf hml st_yX7_slotOf in_X7 hR hcs rfl hcat hd kk
theorem dX7_isBeyond_0 : decode cX7_isBeyond 0 = .ok (.iload_n 0, 1) := by decide +kernel
theorem dX7_isBeyond_1 : decode cX7_isBeyond 1 = .ok (.iload_n 1, 1) := by decide +kernel
theorem dX7_isBeyond_2 : decode cX7_isBeyond 2 = .ok (.if_icmp .gt 9, 3) := by decide +kernel
theorem dX7_isBeyond_5 : decode cX7_isBeyond 5 = .ok (.iload_n 0, 1) := by decide +kernel
theorem dX7_isBeyond_6 : decode cX7_isBeyond 6 = .ok (.iload_n 1, 1) := by decide +kernel
theorem dX7_isBeyond_7 : decode cX7_isBeyond 7 = .ok (.ineg, 1) := by decide +kernel
theorem dX7_isBeyond_8 : decode cX7_isBeyond 8 = .ok (.if_icmp .ge 7, 3) := by decide +kernel
theorem dX7_isBeyond_11 : decode cX7_isBeyond 11 = .ok (.iconst 1, 1) := by decide +kernel
theorem dX7_isBeyond_12 : decode cX7_isBeyond 12 = .ok (.goto 4, 3) := by decide +kernel
theorem dX7_isBeyond_15 : decode cX7_isBeyond 15 = .ok (.iconst 0, 1) := by decide +kernel
theorem dX7_isBeyond_16 : decode cX7_isBeyond 16 = .ok (.ireturn, 1) := by decide +kernel
def pX7_isBeyond_b11   : Int32 := 1
def pX7_isBeyond (a1 : Int32) (a2 : Int32) : Int32 := if a2 < a1 then (pX7_isBeyond_b11) else (if (-a2) ≤ a1 then (0) else (pX7_isBeyond_b11))
set_option maxHeartbeats 4000000 in
set_option maxRecDepth 20000 in
theorem kX7_isBeyond {l : Launch} {D : va_G} {Y : Nat → ClassId} {a1 a2 : Int32} : CMi l yX7_isBeyond cX7_isBeyond 2 (some .boolean) 0 0 D Y [] [] [.int a1, .int a2] (pX7_isBeyond a1 a2) := by
  obtain ⟨r, hX⟩ : ∃ r, pX7_isBeyond a1 a2 = r := ⟨_, rfl⟩
  rw [hX]
  refine cm_ofi (by decide) (Nat.le_of_ble_eq_true rfl) rfl (fun p e s m args below meth c A F hr hlk => ?_)
  show GW p l e { frames := 0, cells := 0, slots := 0, locals := 0 } s m args below meth c D A 2 0 0 (MQ below (QI D [] r A) args s 0 0 A) [] 0 [(0, .int a1), (1, .int a2)] []
  have b11 : pX7_isBeyond_b11   = r → GW p l e { frames := 0, cells := 0, slots := 0, locals := 0 } s m args below meth c D A 2 0 0 (MQ below (QI D [] r A) args s 0 0 A) [] 11 [] [] := by
    intro   hX
    have hX : (1) = r := hX
    refine g_iconst (v := 1) F dX7_isBeyond_11 (by decide) ?_
    refine g_goto (tgt := 16) F dX7_isBeyond_12 (by decide) ?_
    exact g_retS F hr rfl hlk dX7_isBeyond_16 hX
  have hX : (if a2 < a1 then (pX7_isBeyond_b11) else (if (-a2) ≤ a1 then (0) else (pX7_isBeyond_b11))) = r := hX
  refine g_iload_n F dX7_isBeyond_0 0 rfl rfl ?_
  refine g_iload_n F dX7_isBeyond_1 1 rfl rfl ?_
  refine g_icmp_gt (tgt := 11) F dX7_isBeyond_2 (by decide) (fun c1 => ?_) (fun c1 => ?_)
  · have hX := if_t hX c1
    refine g_sub [] rfl ?_
    exact b11  hX
  · have hX := if_f hX c1
    refine g_iload_n F dX7_isBeyond_5 0 rfl rfl ?_
    refine g_iload_n F dX7_isBeyond_6 1 rfl rfl ?_
    refine g_ineg F dX7_isBeyond_7 ?_
    refine g_icmp_ge (tgt := 15) F dX7_isBeyond_8 (by decide) (fun c2 => ?_) (fun c2 => ?_)
    · have hX := if_t hX c2
      refine g_iconst (v := 0) F dX7_isBeyond_15 (by decide) ?_
      exact g_retS F hr rfl hlk dX7_isBeyond_16 hX
    · have hX := if_f hX c2
      refine g_sub [] rfl ?_
      exact b11  hX
theorem b01_X7_isBeyond {a1 a2 : Int32} : pX7_isBeyond a1 a2 = 0 ∨ pX7_isBeyond a1 a2 = 1 := by
  simp only [pX7_isBeyond_b11, pX7_isBeyond]
  repeat' split
  all_goals first | exact Or.inl rfl | exact Or.inr rfl 
theorem callX7_isBeyond {p : Program} {l : Launch} {e : Env} {R : Room} {s : State} {m : MethodId} {args : Array Value} {below : List Frame} {meth : Method} {c : Code} {D : va_G} {Y : Nat → ClassId} {A : Nat → Prop} {cc : ByteArray} {nL : Nat} {own : String} {Q : State → Prop} {pc : Nat} {lv : List (Nat × Value)} {rest : List Value} {cells slots : Nat} {ws : va_W} {a1 a2 : Int32} (F : Fx p s m args c D Y A cc nL own) {index : Nat} (hml : Cond.methodLink own index yX7_isBeyond ∈ TBL) (hR : 0 + 1 ≤ R.frames ∧ 8 + (2 + 11) + 0 ≤ R.locals) (hcat : (rest.map fun v => v.category).sum ≤ 8) (hd : decode cc pc = .ok (.invokestatic index, 3)) (kk : GW p l e R s m args below meth c D A nL cells slots Q ws (pc + 3) lv (.int (pX7_isBeyond a1 a2) :: rest)) (hcs : cells ≤ R.cells ∧ slots ≤ R.slots := by exact ⟨Nat.zero_le _, Nat.zero_le _⟩) : GW p l e R s m args below meth c D A nL cells slots Q ws pc lv (.int a2 :: .int a1 :: rest) := g_callS (n := 2) F kX7_isBeyond (by unfold mOK; decide +kernel) rfl cd_yX7_isBeyond hml st_yX7_isBeyond in_X7 hR hcs rfl hcat hd kk
end
