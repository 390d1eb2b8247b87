/-! A BOX COMES -/
theorem wt_new {N : Nat} {x : Int32} {wh pl sl sl' tr : Nat → Int32} (h : RSl N wh pl sl sl') (h60 : N ≤ 60) {s : Nat} (hs : s < 72) : wt (upd tr N x) (sl' s) = wt tr (sl' s) := by
  rcases (h.1 s hs).2 with q | ⟨b, b1, b2, -, -⟩
  · rw [q, wt_m1, wt_m1]
  · rw [b2, wt_n (by omega), wt_n (by omega), pk_un (by omega)]
theorem ld_tr {ld : Nat → Int32} {he : Int32} {sl' w' tr tr' : Nat → Int32} (h : RLd ld he sl' w' tr) (e : ∀ s, s < 72 → wt tr' (sl' s) = wt tr (sl' s)) : RLd ld he sl' w' tr' := by
  refine ⟨fun i hi => ?_, ?_⟩
  · rw [h.1 i hi]
    exact congrArg (fun z => w' i + z) (sumN_congr fun k hk => (e (12 * i + k) (by omega)).symm)
  · rw [h.2]
    exact sumN_congr fun s hs => by rw [e s hs]
def bxC (u : St) (N : Nat) (w tr po ki : Int32) : St := sS (sA (sA (sA (sA u 0 (upd (u.1 0) N w)) 1 (upd (u.1 1) N tr)) 2 (upd (u.1 2) N po)) 3 (upd (u.1 3) N ki)) 6 (nI (N + 1))
def bxM (v : St) (N : Nat) (w tr po ki : Int32) : St := sA (sA (sA (sA (sS (sA (sS v 0 0) 5 (upd (v.1 5) N w)) 0 0) 6 (upd (v.1 6) N tr)) 7 (upd (v.1 7) N po)) 8 (upd (v.1 8) N ki)) 9 (upd (v.1 9) N 0)
theorem rel_box {u v : St} {N O P t k w tr po ki : Nat} (h : RelN N O P u v) (hN : N < 60) (ht : t < 10) (hk : k < 4) (e7 : v.1 12 t = nI k) (hw : 1 ≤ w ∧ w ≤ 40) (htr : 1 ≤ tr ∧ tr ≤ 40) (hpo : po ≤ 9) (hki : ki ≤ 4) : RelN (N + 1) O P (PY (bxC u N (nI w) (nI tr) (nI po) (nI ki)) N t k) (sS (MY (bxM v N (nI w) (nI tr) (nI po) (nI ki)) N t k) 4 (nI (N + 1))) := by
  obtain ⟨h1, g2, g3, g4, g5, g6, g7, g8, g9, g10, g11, g12, g13, g14, g15⟩ := id h
  obtain ⟨s1, s2, s3, s4, s5, s6⟩ := h1
  have hlt : ∀ x, x < N + 1 → x ≠ N → x < N := fun x h1 h2 => by omega
  refine ⟨⟨hN, s2, s3, rfl, rfl, s6⟩, ?_, pl_upd g3 hlt (Or.inl ⟨rfl, t, ht, rfl, rfl⟩), yd_push g4 hN (by omega) hlt (by omega) (fun q => absurd q (by omega)) ht e7 hk, sl_keep g5 hlt (by omega) (fun q => absurd q (by omega)) (by decide), g6, g7, g8, g9, ld_tr g10 (fun s hs => wt_new g5 s1 hs), g11, g12, ?_, fun b b1 b2 => g14 b (by omega) b2, g15⟩
  · intro b hb
    show upd (u.1 0) N (nI w) b = upd (v.1 5) N (nI w) b ∧ upd (u.1 1) N (nI tr) b = upd (v.1 6) N (nI tr) b ∧ upd (u.1 2) N (nI po) b = upd (v.1 7) N (nI po) b ∧ upd (u.1 3) N (nI ki) b = upd (v.1 8) N (nI ki) b ∧ u.1 4 b = upd (v.1 9) N 0 b ∧ upd (u.1 5) N 0 b = upd (v.1 10) N 0 b ∧ (∃ w1, 1 ≤ w1 ∧ w1 ≤ 40 ∧ upd (v.1 6) N (nI tr) b = nI w1) ∧ (∃ w1, 1 ≤ w1 ∧ w1 ≤ 40 ∧ upd (v.1 5) N (nI w) b = nI w1) ∧ (∃ p, p ≤ 9 ∧ upd (v.1 7) N (nI po) b = nI p) ∧ (∃ k, k ≤ 4 ∧ upd (v.1 8) N (nI ki) b = nI k)
    by_cases e : b = N
    · subst e; simp only [pk_us]
      exact ⟨trivial, trivial, trivial, trivial, g14 b (Nat.le_refl b) hN, trivial, ⟨tr, htr.1, htr.2, rfl⟩, ⟨w, hw.1, hw.2, rfl⟩, ⟨po, hpo, rfl⟩, ⟨ki, hki, rfl⟩⟩
    · simp only [pk_un e]; exact g2 b (by omega)
  · intro o ho
    obtain ⟨q1, q2, q3⟩ := g13 o ho
    refine ⟨q1, q2, ?_⟩
    rcases q3 with ⟨c1, ⟨b, b1, b2⟩, c3⟩ | ⟨c1, ⟨b, b1, b2⟩, c3⟩ | q3
    · exact Or.inl ⟨c1, ⟨b, by omega, b2⟩, c3⟩
    · exact Or.inr (Or.inl ⟨c1, ⟨b, by omega, b2⟩, c3⟩)
    · exact Or.inr (Or.inr q3)
theorem c_come {u : St} {N : Nat} (e : u.2 6 = nI N) (hN : N < 60) (a b c d : Int32) : pX0_come a b c d u = some (nI N, bxC u N a b c d) := by
  unfold pX0_come
  have e9 : ∀ f g h i, (sA (sA (sA (sA u 0 f) 1 g) 2 h) 3 i).2 6 = nI N := fun _ _ _ _ => e
  rw [e, rs_n (show N < rl 0 from hN), rs_n (show N < rl 1 from hN), rs_n (show N < rl 2 from hN), rs_n (show N < rl 3 from hN), e9, nI_1]; rfl
theorem sx_box : Sx_box Rel := by
  rintro u v ⟨N, O, P, h⟩ a1 a2 a3 a4 a5
  have bad : ∀ x : Int32, Rel u (sS v 0 x) := fun x => ⟨N, O, P, h⟩
  obtain ⟨h1, g2, g3, g4, g5, g6, g7, g8, g9, g10, g11, g12, g13, g14⟩ := id h
  have hN := h1.1
  have eu := h1.2.2.2.1
  have ev := h1.2.2.2.2.1
  have w : ∀ a b c, pX6_isWithin a b c = pX7_in a b c := fun _ _ _ => rfl
  have out : ∀ (k : Nat) (w : Int32), (k = 0 ∨ k = 1 ∨ k = 2 ∨ k = 3) → (w = (if k = 0 then 0 else if k = 1 then 1 else if k = 2 then 2 else if k = 3 then 3 else 0)) → k ≠ 0 → ∀ v1 : St, v1.2 0 = w → Rel u v1 → pX6_box a1 a2 a3 a4 a5 u = some (k, 0, u) → pX7_box a1 a2 a3 a4 a5 v = some (0, v1) → ∃ k r u1 b v1, pX6_box a1 a2 a3 a4 a5 u = some (k, r, u1) ∧ (k = 0 ∨ k = 1 ∨ k = 2 ∨ k = 3) ∧ pX7_box a1 a2 a3 a4 a5 v = some (b, v1) ∧ v1.2 0 = (if k = 0 then 0 else if k = 1 then 1 else if k = 2 then 2 else if k = 3 then 3 else 0) ∧ (k = 0 → r = b) ∧ Rel u1 v1 := fun k w hk hw h0 v1 e1 hr q1 q2 => ⟨k, 0, u, 0, v1, q1, hk, q2, e1.trans hw, fun e => absurd e h0, hr⟩
  -- the reference: which of good or not
  have b70 : ∀ y : Int32, y = 1 ∨ y = 2 → pX7_box_b70 a1 a2 a3 a4 a5 y v = some (0, sS v 0 y) := by
    intro y hy; unfold pX7_box_b70
    rcases hy with rfl | rfl
    · rw [t1]
    · rw [t2]
  have m0 : pX7_box a1 a2 a3 a4 a5 v = pX7_box_b35 a1 a2 a3 a4 a5 (if pX7_in a1 1 40 = 0 then 0 else if pX7_in a2 1 40 = 0 then 0 else if pX7_in a4 0 4 = 0 then 0 else 1) v := by
    unfold pX7_box pX7_box_b34
    by_cases c1 : pX7_in a1 1 40 = 0
    · rw [if_pos c1, if_pos c1]
    · rw [if_neg c1, if_neg c1]
      by_cases c2 : pX7_in a2 1 40 = 0
      · rw [if_pos c2, if_pos c2]
      · rw [if_neg c2, if_neg c2]
        by_cases c3 : pX7_in a4 0 4 = 0
        · rw [if_pos c3, if_pos c3]
        · rw [if_neg c3, if_neg c3]
  rcases inL a3 0 9 0 9 rfl rfl (by decide) (by decide) with z3 | ⟨po, -, l3, rfl, z3⟩
  · refine out 1 1 (by decide) rfl (by decide) _ rfl (bad 1) ?_ ?_
    · unfold pX6_box; rw [w, if_pos z3]
    · rw [m0]; unfold pX7_box_b35 pX7_box_b56; rw [if_pos z3, b70 1 (Or.inl rfl)]
  have z3' : ¬ pX7_in (nI po) 0 9 = 0 := by rw [z3]; decide
  rcases stack_cases a5 with ⟨y6, y7⟩ | ⟨t, ht, rfl, y6, y7⟩
  · refine out 1 1 (by decide) rfl (by decide) _ rfl (bad 1) ?_ ?_
    · unfold pX6_box; rw [w, if_neg z3', if_pos y6]
    · rw [m0]; unfold pX7_box_b35 pX7_box_b56; rw [if_neg z3', if_pos y7, b70 1 (Or.inl rfl)]
  have y6' : ¬ pX6_isStack (nI t) = 0 := by rw [y6]; decide
  have y7' : ¬ pX7_isStack (nI t) = 0 := by rw [y7]; decide
  have m2 : (if pX7_in a1 1 40 = 0 then (0 : Int32) else if pX7_in a2 1 40 = 0 then 0 else if pX7_in a4 0 4 = 0 then 0 else 1) = 0 → pX7_box a1 a2 (nI po) a4 (nI t) v = some (0, sS v 0 2) := by
    intro q; rw [m0, q]; unfold pX7_box_b35; rw [if_neg z3', if_neg y7', if_pos rfl, b70 2 (Or.inr rfl)]
  rcases inL a1 1 40 1 40 rfl rfl (by decide) (by decide) with z1 | ⟨wn, l1, l1', rfl, z1⟩
  · refine out 2 2 (by decide) rfl (by decide) _ rfl (bad 2) ?_ (m2 (by rw [if_pos z1]))
    unfold pX6_box; rw [w, if_neg z3', if_neg y6', w, if_pos z1]
  have z1' : ¬ pX7_in (nI wn) 1 40 = 0 := by rw [z1]; decide
  rcases inL a2 1 40 1 40 rfl rfl (by decide) (by decide) with z2 | ⟨tr, l2, l2', rfl, z2⟩
  · refine out 2 2 (by decide) rfl (by decide) _ rfl (bad 2) ?_ (m2 (by rw [if_neg z1', if_pos z2]))
    unfold pX6_box; rw [w, if_neg z3', if_neg y6', w, if_neg z1', w, if_pos z2]
  have z2' : ¬ pX7_in (nI tr) 1 40 = 0 := by rw [z2]; decide
  rcases inL a4 0 4 0 4 rfl rfl (by decide) (by decide) with z4 | ⟨ki, -, l4, rfl, z4⟩
  · refine out 2 2 (by decide) rfl (by decide) _ rfl (bad 2) ?_ (m2 (by rw [if_neg z1', if_neg z2', if_pos z4]))
    unfold pX6_box; rw [w, if_neg z3', if_neg y6', w, if_neg z1', w, if_neg z2', w, if_pos z4]
  have z4' : ¬ pX7_in (nI ki) 0 4 = 0 := by rw [z4]; decide
  have p6 : pX6_box (nI wn) (nI tr) (nI po) (nI ki) (nI t) u = (if u.2 6 < 60 then (bnd (pX6_mayBeStacked (nI wn) (nI t) u) (fun r7 w8 => if r7 = 0 then (some (3, 0, w8)) else (bnd (pX0_come (nI wn) (nI tr) (nI po) (nI ki) w8) (fun r11 w12 => bnd (pX6_putInYard r11 (nI t) w12) (fun r14 w15 => some (0, r11, w15)))))) else (some (3, 0, u))) := by
    unfold pX6_box; rw [w, if_neg z3', if_neg y6', w, if_neg z1', w, if_neg z2', w, if_neg z4']
  have p7 : pX7_box (nI wn) (nI tr) (nI po) (nI ki) (nI t) v = pX7_box_b70 (nI wn) (nI tr) (nI po) (nI ki) (nI t) 0 v := by
    rw [m0, if_neg z1', if_neg z2', if_neg z4']; unfold pX7_box_b35; rw [if_neg z3', if_neg y7', if_neg one0]
  by_cases hlt : N < 60
  · have c60 : u.2 6 < 60 := by rw [eu]; exact nI_lt (show N < 60 from hlt) (by decide)
    have cN : (nI N).toNatClampNeg = N := nI_clamp (by omega)
    -- with the weight told already
    have hv : RelN N O P u (sA (sS v 0 0) 5 (upd (v.1 5) N (nI wn))) := by
      refine ⟨h1, fun b hb => ?_, g3, g4, g5, g6, g7, g8, g9, g10, g11, g12, g13, g14⟩
      obtain ⟨q1, q2, q3, q4, q5, q6, q7, q8, q9⟩ := g2 b hb
      have e9 : upd (v.1 5) N (nI wn) b = v.1 5 b := pk_un (by omega)
      refine ⟨q1.trans e9.symm, q2, q3, q4, q5, q6, q7, ?_, q9⟩
      show ∃ w1, 1 ≤ w1 ∧ w1 ≤ 40 ∧ upd (v.1 5) N (nI wn) b = nI w1
      rw [e9]; exact q8
    have cm := c_mayBeStacked hv (nI wn) ht
    have mm := m_stackMay hv (b := N) hlt ht
    rw [show (sA (sS v 0 0) 5 (upd (v.1 5) N (nI wn))).1 5 N = nI wn from pk_us] at mm
    have p7' : pX7_box (nI wn) (nI tr) (nI po) (nI ki) (nI t) v = bnd (some (b2p (SM (nI wn) t (sA (sS v 0 0) 5 (upd (v.1 5) N (nI wn)))), sA (sS v 0 0) 5 (upd (v.1 5) N (nI wn)))) (fun r15 w16 => if r15 = 0 then (pX7_box_b132 (nI tr) (nI po) (nI ki) (nI t) w16) else (pX7_box_b137 (nI tr) (nI po) (nI ki) (nI t) 0 w16)) := by
      rw [p7]; unfold pX7_box_b70
      rw [t0, show (sS v 0 0).2 4 = nI N from ev, if_neg (show ¬ nI N = 60 from fun e => by have := nI_inj (show N < 2 ^ 31 by omega) (show 60 < 2 ^ 31 by decide) e; omega)]
      unfold pX7_box_b96
      rw [if_pos rfl, show (sS v 0 0).2 4 = nI N from ev, ck hlt (by decide), cN]
      unfold pX7_box_b113
      rw [if_pos rfl]
      rw [show (sA (sS v 0 0) 5 (upd ((sS v 0 0).1 5) N (nI wn))).2 4 = nI N from ev]
      exact congrArg (fun z => bnd z _) mm
    rw [bnd_some] at p7'
    rcases Classical.em (SM (nI wn) t (sA (sS v 0 0) 5 (upd (v.1 5) N (nI wn)))) with hs | hs
    · obtain ⟨k, hk4, y1, y2, -, -, -⟩ := g4 t ht
      have hk : k < 4 := by
        have q : (sA (sS v 0 0) 5 (upd (v.1 5) N (nI wn))).1 12 t < 4 := hs.1
        rw [show (sA (sS v 0 0) 5 (upd (v.1 5) N (nI wn))).1 12 t = nI k from y2] at q
        rcases Nat.lt_or_ge k 4 with q1 | q1
        · exact q1
        · exact absurd q (nI_nlt q1 (by omega))
      refine ⟨0, nI N, _, nI N, _, ?_, Or.inl rfl, ?_, ?_, fun _ => rfl, N + 1, O, P, rel_box (w := wn) (tr := tr) (po := po) (ki := ki) h hlt ht hk y2 ⟨l1, l1'⟩ ⟨l2, l2'⟩ l3 l4⟩
      · rw [p6, if_pos c60, cm, bnd_some, b2p_t hs, if_neg one0, c_come eu hlt, bnd_some, c_putInYard hlt ht hk (show (bxC u N (nI wn) (nI tr) (nI po) (nI ki)).1 7 t = nI k from y1)]; rfl
      · rw [p7', b2p_t hs, if_neg one0]
        unfold pX7_box_b137
        rw [t0]
        have eN : ∀ f, (sS (sA (sS v 0 0) 5 f) 0 0).2 4 = nI N := fun _ => ev
        have eN0 : ∀ f g, (sA (sS (sA (sS v 0 0) 5 f) 0 0) 6 g).2 4 = nI N := fun _ _ => ev
        have eN1 : ∀ f g h, (sA (sA (sS (sA (sS v 0 0) 5 f) 0 0) 6 g) 7 h).2 4 = nI N := fun _ _ _ => ev
        have eN2 : ∀ f g h i, (sA (sA (sA (sS (sA (sS v 0 0) 5 f) 0 0) 6 g) 7 h) 8 i).2 4 = nI N := fun _ _ _ _ => ev
        have eN3 : ∀ f g h i j, (sA (sA (sA (sA (sS (sA (sS v 0 0) 5 f) 0 0) 6 g) 7 h) 8 i) 9 j).2 4 = nI N := fun _ _ _ _ _ => ev
        simp only [eN, eN0, eN1, eN2, eN3, ckS hlt (show 60 < 2 ^ 31 by decide), ckS2 hlt (show 60 < 2 ^ 31 by decide), if_false, cN]
        have mc := m_comesTo (w := bxM v N (nI wn) (nI tr) (nI po) (nI ki)) (b := N) (t := t) (k := k) hlt ht hk y2
        refine (congrArg (fun z => bnd z (fun r12 w13 => some (((sS w13 4 ((w13.2 4) + 1)).2 4) - 1, sS w13 4 ((w13.2 4) + 1)))) mc).trans ?_
        rw [bnd_some]
        rw [show (MY (bxM v N (nI wn) (nI tr) (nI po) (nI ki)) N t k).2 4 = nI N from ev, nI_1]
        rw [show (sS (MY (bxM v N (nI wn) (nI tr) (nI po) (nI ki)) N t k) 4 (nI (N + 1))).2 4 - 1 = nI N from nI_pred N]
      · rfl
    · refine out 3 3 (by decide) rfl (by decide) (sS (sA (sS v 0 0) 5 (upd (v.1 5) N (nI wn))) 0 3) rfl ⟨N, O, P, hv⟩ ?_ ?_
      · rw [p6, if_pos c60, cm, bnd_some, b2p_f hs, if_pos rfl]
      · rw [p7', b2p_f hs, if_pos rfl]; unfold pX7_box_b132 pX7_box_b137; rw [t3]
  · obtain rfl : N = 60 := by omega
    refine out 3 3 (by decide) rfl (by decide) (sS (sS v 0 0) 0 3) rfl ⟨60, O, P, h⟩ ?_ ?_
    · rw [p6, if_neg (by rw [eu]; decide)]
    · rw [p7]; unfold pX7_box_b70
      rw [t0, show (sS v 0 0).2 4 = nI 60 from ev, if_pos (show nI 60 = 60 from rfl)]
      unfold pX7_box_b96 pX7_box_b113 pX7_box_b132 pX7_box_b137
      rw [if_neg one0, if_neg one0, t3]
