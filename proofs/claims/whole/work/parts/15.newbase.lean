/-! MAKING OBJECTS: rows of GW for constructors; a constructor's contract names what worlds may come -/
theorem w_perm {D : va_G} {cl : List vw_C} {A : Nat → Prop} {ws ws' : va_W} {H : Heap} (hs : ∀ q ∈ ws', q ∈ ws) (hn : ((ws.map Prod.fst).Nodup → (ws'.map Prod.fst).Nodup)) (hP : va_P D cl ws H) (hD : va_D A ws) : va_P D cl ws' H ∧ va_D A ws' := by
  rw [wD_iff] at hD ⊢
  exact ⟨wP_iff.mpr fun q hq => wP_iff.mp hP q (hs q hq), hn hD.1, fun q hq => hD.2 q (hs q hq)⟩
/-- a constructor's contract: the world wc becomes one of which Φ tells -/
def CN (l : Launch) (y : MethodName) (bytes : ByteArray) (maxL : Nat) (fr lo mc ms : Nat) (D : va_G) (Y : Nat → ClassId) (wc : va_W) (vals : List Value) (Φ : va_W → Prop) : Prop :=
  ∀ sz, Met l y (.code y bytes maxL none :: TBL) { frames := fr, cells := mc, slots := ms, locals := lo } (PC D Y wc vals sz) (va_Qv Φ (fun w1 t => va_P D classes w1 t.heap ∧ va_D (va_A wc sz) w1) (va_A wc sz)) mc ms (va_A wc sz)
def QN (below : List Frame) (args : Array Value) (s : State) (D : va_G) (A : Nat → Prop) (mc ms : Nat) (Φ : va_W → Prop) : State → Prop := MQ below (va_Qv Φ (fun w1 t => va_P D classes w1 t.heap ∧ va_D A w1) A) args s mc ms A
theorem cm_ofn {l : Launch} {y : MethodName} {bytes : ByteArray} {maxL fr lo mc ms : Nat} {D : va_G} {Y : Nat → ClassId} {wc : va_W} {vals : List Value} {lv0 : List (Nat × Value)} {Φ : va_W → Prop} (hy : plainName y.cls = true) (hn : (lg_sl vals).length ≤ maxL) (h0 : lv_args 0 vals = lv0)
    (body : ∀ (p : Program) (e : Env) (s : State) (m : MethodId) (args : Array Value) (below : List Frame) (meth : Method) (c : Code) (A : Nat → Prop), Fx p s m args c D Y A bytes maxL y.cls → meth.sig.returnType = none → meth.locks = false → meth.name = y.name → GW p l e { frames := fr, cells := mc, slots := ms, locals := lo } s m args below meth c D A maxL 0 0 (QN below args s D A mc ms Φ) wc 0 lv0 []) : CN l y bytes maxL fr lo mc ms D Y wc vals Φ := by
  intro sz
  refine Met.ofW (cc := bytes) (maxL := maxL) (ret := none) hy rfl ?_
  intro p e s m args below meth c s₁ B hml hv
  obtain ⟨rfl, hsz, hP, hK, hD0⟩ := hv
  have hts := atoms_spec (ws := .code y bytes maxL none :: TBL) B.pre
  have hown : s.vm.findClass y.cls = some m.cls := findClass_of_methodNamed B.named
  have hin : meth.name = y.name := (name_of_methodNamed B.named B.method).1
  subst hsz
  have hD := hD0.self (sz := s.heap.size)
  have hA : ∀ q : Nat, s.heap.size ≤ q → va_A wc s.heap.size q := fun q h => Or.inr h
  have hl := lv_entry vals (n := maxL) hn
  rw [lg_entry_eq]
  rw [h0] at hl
  exact body p e s m vals.toArray below meth c (va_A wc s.heap.size) ⟨B.exec, B.bytes, hml, hown, fun w hw => hts w (List.mem_cons_of_mem _ hw), hK, hA⟩ B.returns B.notSynchronized hin s.heap [] _ hP hD va_S.rf hl
section MAKE
variable {p : Program} {l : Launch} {e : Env} {R : Room} {s : State} {m : MethodId} {args : Array Value} {below : List Frame} {meth : Method} {c : Code} {D : va_G} {Y : Nat → ClassId} {A : Nat → Prop} {cc : ByteArray} {nL : Nat} {own : String} {cells slots mc ms : Nat} {Q : State → Prop} {ws : va_W} {pc : Nat} {lv : List (Nat × Value)} {st rest : List Value} {Φ : va_W → Prop}
theorem g_perm {ws' : va_W} (hs : ∀ q ∈ ws', q ∈ ws) (hn : ((ws.map Prod.fst).Nodup → (ws'.map Prod.fst).Nodup)) (k : GW p l e R s m args below meth c D A nL cells slots Q ws' pc lv st) : GW p l e R s m args below meth c D A nL cells slots Q ws pc lv st := fun H locs ls hP hD hS hl => k H locs ls (w_perm hs hn hP hD).1 (w_perm hs hn hP hD).2 hS hl
theorem g_widen {k n : Nat} (h1 : cells ≤ k) (h2 : slots ≤ n) (kk : GW p l e R s m args below meth c D A nL k n Q ws pc lv st) : GW p l e R s m args below meth c D A nL cells slots Q ws pc lv st := fun H locs ls hP hD hS hl => W.widen h1 h2 (kk H locs ls hP hD hS hl)
theorem g_objInit (F : Fx p s m args c D Y A cc nL own) {idx a : Nat} (hlink : Cond.methodLink own idx objectInit ∈ TBL) (hd : decode cc pc = .ok (.invokespecial idx, 3)) (hR : 1 ≤ R.frames ∧ (rest.map fun v => v.category).sum + 12 ≤ R.locals) (kk : GW p l e R s m args below meth c D A nL cells slots Q ws (pc + 3) lv rest) : GW p l e R s m args below meth c D A nL cells slots Q ws pc lv (.ref a :: rest) := fun H locs ls hP hD hS hl => W.objInit F.1 F.2.1 F.2.2.2.1 (F.2.2.2.2.1 _ hlink) (F.2.2.2.2.1 _ im_objectInit) (F.2.2.2.2.1 _ cd_objectInit) rfl (hl.1.trans F.2.2.1.symm) rfl hd hR.1 (by show 2 * 0 + _ + 12 ≤ R.locals; omega) (kk H locs ls hP hD hS hl)
theorem g_new (F : Fx p s m args c D Y A cc nL own) {C : String} {T : u_T} {N ci index : Nat} (hin : ∀ w ∈ u_ws C T N, w ∈ TBL) (ty : Nat → FieldType) (hty : ∀ k, k < N → parseFieldDescriptor (T k).2.2.1 = some (ty k)) (hcl : Cond.classLink own index C ∈ TBL) (hinst : Cond.instantiable C N ∈ TBL) (hini : Cond.initialized C ∈ TBL) (hc : classes[ci]? = some (C, T, N)) (fs : List Value) (hfs : ∀ j, j < N → defaultValue (ty j) = vp_V fs j) (hR : cells + 1 ≤ R.cells ∧ slots + N ≤ R.slots) (hd : decode cc pc = .ok (.new index, 3)) (kk : ∀ q, GW p l e R s m args below meth c D A nL (cells + 1) (slots + N) Q (ws ++ [(q, .inr (ci, fs))]) (pc + 3) lv (.ref q :: st)) : GW p l e R s m args below meth c D A nL cells slots Q ws pc lv st := fun H locs ls hP hD hS hl => va_new F.1 F.2.1 F.2.2.2.2.1 hin ty hty F.2.2.2.1 (F.2.2.2.2.1 _ hcl) (F.2.2.2.2.1 _ hinst) (F.2.2.2.2.1 _ hini) F.2.2.2.2.2.1.1 hP hD hS F.2.2.2.2.2.2 hc hfs hR.1 hR.2 hd (fun q H1 hP1 hD1 hS1 => kk q H1 locs ls hP1 hD1 hS1 hl)
theorem g_newa (F : Fx p s m args c D Y A cc nL own) {atype : ArrayType} {ty : FieldType} (t0 : Nat) (hty : newarray.typeOf atype = ty) (ht : (tys Y)[t0]? = some (Y t0, ty)) (hda : defaultValue ty = .int 0) (hno : ∀ C, ty ≠ .object C) (harr : Cond.arrayClass (newarray.typeOf atype) ∈ TBL) {n : Int32} {N' : Nat} (hn : ¬ n < 0) (hN : n.toNatClampNeg = N') (hbytes : N' * componentBytes ty ≤ 536870912) (hR : cells + 1 ≤ R.cells ∧ slots + N' ≤ R.slots) (hd : decode cc pc = .ok (.newarray atype, 2)) (kk : ∀ q, GW p l e R s m args below meth c D A nL (cells + 1) (slots + N') Q (ws ++ [(q, .inl (Y t0, N', .inl (fun _ => 0)))]) (pc + 2) lv (.ref q :: st)) : GW p l e R s m args below meth c D A nL cells slots Q ws pc lv (.int n :: st) := by
  intro H locs ls hP hD hS hl
  refine va_newa F.1 F.2.1 (F.2.2.2.2.1 _ harr) hty F.2.2.2.2.2.1.1 hP hD hS F.2.2.2.2.2.2 (a0 := (N', .inl (fun _ => 0))) (fun cA => by rw [hda]; rfl) hn hN hbytes hR.1 hR.2 hd (fun q cA H1 hK1 hP1 hD1 hS1 => ?_)
  have e1 := (hK1.2 (tys Y).length (cA, ty) (by rw [List.getElem?_append_right (Nat.le_refl _), Nat.sub_self]; rfl)).2
  have e2 := (F.2.2.2.2.2.1.1.2 t0 _ ht).2
  have e3 : cA = Y t0 := by
    cases ty with
    | object C => exact absurd rfl (hno C)
    | _ => exact Option.some.inj (e1.symm.trans e2)
  subst e3
  exact kk q H1 locs ls hP1 hD1 hS1 hl
theorem g_putF (F : Fx p s m args c D Y A cc nL own) {ref C : String} {T : u_T} {N ci index a : Nat} (hin : ∀ w ∈ u_ws C T N, w ∈ TBL) (ty0 : Nat → FieldType) (hty : ∀ k, k < N → parseFieldDescriptor (T k).2.2.1 = some (ty0 k)) (hnm : ∀ a, a < N → ∀ b, b < N → a ≠ b → (T a).2.1 ≠ (T b).2.1) (q0 : Nat) {fs : List Value} (he : ws[q0]? = some (a, .inr (ci, fs))) (hc : classes[ci]? = some (C, T, N)) (k : Nat) (hk : k < N) (hlink : Cond.fieldLink own index ref (T k).2.1 (T k).2.2.1 ∈ TBL) (hsame : (T k).1 = ref) (hfin : (T k).2.2.2 = true) (hin2 : meth.name = "<init>") (hdecl : (T k).1 = own) {ty : FieldType} {v : Value} (hde : parseFieldDescriptor (T k).2.2.1 = some ty) (hn : narrow ty v = v) (hfit : fits ty v = true) (hl9 : k < fs.length) (hd : decode cc pc = .ok (.putfield index, 3)) {ws' : va_W} (hw : ws.set q0 (a, .inr (ci, fs.set k v)) = ws') (kk : GW p l e R s m args below meth c D A nL cells slots Q ws' (pc + 3) lv st) : GW p l e R s m args below meth c D A nL cells slots Q ws pc lv (v :: .ref a :: st) := fun H locs ls hP hD hS hl => va_putF F.1 F.2.1 F.2.2.2.2.1 hin ty0 hty hnm F.2.2.2.1 F.2.2.2.2.2.1.1 hP hD hS q0 he hc k hk (F.2.2.2.2.1 _ hlink) (fun _ h9 => by rw [← hsame]; exact h9) hfin hin2 hdecl hde hn hfit hl9 hd (fun H1 locs1 hP1 hD1 hS1 => kk H1 locs1 ls (hw ▸ hP1) (hw ▸ hD1) hS1 hl)
theorem g_nret (F : Fx p s m args c D Y A cc nL own) (hr : meth.sig.returnType = none) (hlocks : meth.locks = false) (hd : decode cc pc = .ok (.return_, 1)) (hΦ : Φ ws) : GW p l e R s m args below meth c D A nL mc ms (QN below args s D A mc ms Φ) ws pc lv [] := fun H locs ls hP hD hS hl => W.vret F.1 F.2.1 hr (fun t ht _ => ⟨⟨ws, rfl, hΦ, by rw [ht]; exact hP, hD⟩, hS.F ht⟩) hS.2.2 hd hlocks
theorem g_callI {y : MethodName} {bytes : ByteArray} {maxL fr lo index b n : Nat} {As : List Value} {wc : va_W} {mc0 ms0 : Nat} {Φ0 : va_W → Prop} (F : Fx p s m args c D Y A cc nL own) (pre post : va_W) (hM : CN l y bytes maxL fr lo mc0 ms0 D Y wc (.ref b :: As) Φ0) (hws : ws = pre ++ wc ++ post) (hy : mOK y n) (hn : As.length = n) (hy1 : y.name = "<init>") (hcd : Cond.code y bytes maxL none ∈ TBL) (hml : Cond.methodLink own index y ∈ TBL) (him : Cond.instanceMethod y ∈ TBL) (hin : Cond.initialized y.cls ∈ TBL)
    (hR : fr + 1 ≤ R.frames ∧ 8 + (maxL + 11) + lo ≤ R.locals) (hcs : cells + mc0 ≤ R.cells ∧ slots + ms0 ≤ R.slots) (hst : st = As.reverse ++ .ref b :: rest) (hcat : (rest.map fun v => v.category).sum ≤ 8) (hd : decode cc pc = .ok (.invokespecial index, 3))
    (kk : ∀ w1, Φ0 w1 → GW p l e R s m args below meth c D A nL (cells + mc0) (slots + ms0) Q (pre ++ w1 ++ post) (pc + 3) lv rest) : GW p l e R s m args below meth c D A nL cells slots Q ws pc lv st := by
  intro H locs ls hP hD hS hl
  subst hws hst
  have hPc := w_subP hP
  have hDc := w_subD hD
  have hA : ∀ q, H.size ≤ q → A q := fun q h => F.2.2.2.2.2.2 q (Nat.le_trans hS.1 h)
  have hFc := w_subA hD hA
  refine va_callv (va_runI (As := As) (rest := rest) ⟨F.1, F.2.1, F.2.2.1, F.2.2.2.1, F.2.2.2.2.1⟩ (hM H.size) (cwI n F.2.2.2.2.1 ?_ rfl rfl rfl (F.2.2.2.2.1 _ hin) (F.2.2.2.2.1 _ hml) (F.2.2.2.2.1 _ him) hy1 hy hR) ⟨PC.blind, g_hp F hPc hDc⟩ rfl hn hl.1 rfl (lv_room hcat) hd hcs) hS (fun q _ h => hFc q h) hFc (fun u t H1 locs1 ht hvm hw hB hz1 hk1 hS1 => ?_)
  · intro w hw
    have hT : w ∈ TBL := by
      rcases List.mem_cons.mp hw with h | h
      · rw [h]; exact hcd
      · exact h
    exact ⟨hT, good_of_word (tbl_good hT)⟩
  · rw [ht] at hB
    obtain ⟨hP1, hD1⟩ := w_frame hP hD hk1 hFc hB.1 hB.2
    exact kk u hw H1 locs1 ls hP1 hD1 hS1 hl
end MAKE
