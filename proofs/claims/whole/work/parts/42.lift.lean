/-! A LIFT -/
theorem ld_set {s : Nat} {x0 x1 : Int32} {ld : Nat → Int32} {he : Int32} {sl w tr : Nat → Int32} {d : Int32} (h : RLd ld he sl w tr) (hs : s < 72) (h0 : wt tr (sl s) = x0) {y : Int32} (h1 : wt tr y = x1) (hd : d = x1 - x0) : RLd (upd ld (s / 12) (ld (s / 12) + d)) (he + d * (nI (s / 4 % 3) - 1)) (upd sl s y) w tr := by
  refine ⟨fun i hi => ?_, ?_⟩
  · by_cases e : i = s / 12
    · have ek : 12 * i + s % 12 = s := by omega
      rw [← e, pk_us, h.1 i hi]
      have q := sumN_one (n := 12) (i := s % 12) (f := fun k => wt tr (sl (12 * i + k))) (g := fun k => wt tr (upd sl s y (12 * i + k))) (by omega) (fun k hk hne => by
        show wt tr (upd sl s y (12 * i + k)) = wt tr (sl (12 * i + k))
        rw [pk_un (by omega)])
      rw [q]
      show w i + sumN 12 _ + d = w i + (sumN 12 _ - wt tr (sl (12 * i + s % 12)) + wt tr (upd sl s y (12 * i + s % 12)))
      rw [ek, pk_us, h0, h1, hd]; grind
    · rw [pk_un e, h.1 i hi]
      exact congrArg (fun z => w i + z) (sumN_congr fun k hk => by rw [pk_un (by omega)])
  · rw [h.2]
    have q := sumN_one (n := 72) (i := s) (f := fun k => wt tr (sl k) * (nI (k / 4 % 3) - 1)) (g := fun k => wt tr (upd sl s y k) * (nI (k / 4 % 3) - 1)) hs (fun k hk hne => by
      show wt tr (upd sl s y k) * _ = wt tr (sl k) * _
      rw [pk_un hne])
    rw [q]
    show sumN 72 _ + d * _ = sumN 72 _ - wt tr (sl s) * (nI (s / 4 % 3) - 1) + wt tr (upd sl s y s) * (nI (s / 4 % 3) - 1)
    rw [pk_us, h0, h1, hd]; grind
def PS (u : St) (s : Nat) (x d : Int32) : St := sS (sA (sA u 13 (upd (u.1 13) s x)) 12 (upd (u.1 12) (s / 12) (u.1 12 (s / 12) + d))) 7 (u.2 7 + d * (nI (s / 4 % 3) - 1))
theorem c_put {u : St} {s : Nat} {x d : Int32} (hs : s < 72) : pX4_put x (sN s) d u = some (0, PS u s x d) := by
  have hy : s / 12 < 6 := by omega
  unfold pX4_put pX4_addWeight
  rw [(sN_facts s hs).1, (sN_facts s hs).2.2.1, (sN_facts s hs).2.2.2.1, rs_n (show s < rl 13 from hs), ra_n (show s / 12 < rl 12 from hy)]; rfl
theorem c_take {u : St} {s : Nat} {d : Int32} (hs : s < 72) : pX4_take (sN s) d u = some (0, PS u s (-1) (-d)) := by
  have hy : s / 12 < 6 := by omega
  unfold pX4_take pX4_addWeight
  rw [(sN_facts s hs).1, (sN_facts s hs).2.2.1, (sN_facts s hs).2.2.2.1, rs_n (show s < rl 13 from hs), ra_n (show s / 12 < rl 12 from hy)]; rfl
theorem m_comesAboard {w : St} {b s : Nat} (hb : b < 60) (hs : s < 72) : pX7_comesAboard (nI b) (nI s) w = some (0, sA (sA (sA w 10 (upd (w.1 10) b 1)) 11 (upd (w.1 11) b (nI s))) 0 (upd (w.1 0) s (nI b))) := by
  unfold pX7_comesAboard
  have cb : (nI b).toNatClampNeg = b := nI_clamp (by omega)
  have cs : (nI s).toNatClampNeg = s := nI_clamp (by omega)
  simp only [ckS hb (show 60 < 2 ^ 31 by decide), ckS2 hb (show 60 < 2 ^ 31 by decide), ckS hs (show 72 < 2 ^ 31 by decide), ckS2 hs (show 72 < 2 ^ 31 by decide), if_false, cb, cs]; rfl
theorem bo_where {N b : Nat} {x : Int32} {t tr po ki pa wh t' tr' po' ki' pa' wh' : Nat → Int32} (h : RBo N t tr po ki pa wh t' tr' po' ki' pa' wh') : RBo N t tr po ki pa (upd wh b x) t' tr' po' ki' pa' (upd wh' b x) := by
  intro c hc
  obtain ⟨q1, q2, q3, q4, q5, q6, q7⟩ := h c hc
  refine ⟨q1, q2, q3, q4, q5, ?_, q7⟩
  by_cases e : c = b
  · subst e; rw [pk_us, pk_us]
  · rw [pk_un e, pk_un e]; exact q6
theorem bo_told {N b : Nat} {t tr po ki pa wh t' tr' po' ki' pa' wh' : Nat → Int32} (h : RBo N t tr po ki pa wh t' tr' po' ki' pa' wh') (hb : b < N) : RBo N (upd t b (tr b)) tr po ki pa wh (upd t' b (tr' b)) tr' po' ki' pa' wh' := by
  intro c hc
  obtain ⟨q1, q2, q3, q4, q5, q6, q7, q8, q9⟩ := h c hc
  by_cases e : c = b
  · subst e; rw [pk_us, pk_us]; exact ⟨q2, q2, q3, q4, q5, q6, q7, q7, q9⟩
  · rw [pk_un e, pk_un e]; exact ⟨q1, q2, q3, q4, q5, q6, q7, q8, q9⟩
/-- the three moves, as the two sides do them -/
theorem mv_load {u v : St} {N O P b s t k : Nat} (h : RelN N O P u v) (hb : b < N) (hs : s < 72) (ht : t < 10) (hk : k < 4) (ew : v.1 10 b = 0) (ep : v.1 11 b = nI t) (eh : v.1 12 t = nI (k + 1)) (et : v.1 13 (4 * t + k) = nI b) (hM : MB N v b s) :
    ∃ u1 u2, pX6_takeAway (nI b) u = some (0, u1) ∧ pX6_putOnShip (nI b) (sN s) u1 = some (0, u2) ∧ RelN N O P u2 (sA (sA (sA (sA v 12 (upd (v.1 12) t (nI k))) 10 (upd (v.1 10) b 1)) 11 (upd (v.1 11) b (nI s))) 0 (upd (v.1 0) s (nI b))) := by
  obtain ⟨h1, h2, h3, h4, h5, hg, ho, g8, g9, g10, g11, g12, g13, g14, g15⟩ := id h
  have hN := h1.1
  have hb6 : b < 60 := by omega
  obtain ⟨-, k2, -, -, -, k6, -⟩ := h2 b hb
  obtain ⟨t', k', z1, z2, e1, e2, y1, y2, -⟩ := yard_of h hb ew
  obtain rfl : t = t' := nI_inj (by omega) (by omega) (ep.symm.trans e2)
  have : k + 1 = k' + 1 := nI_inj (by omega) (by omega) (eh.symm.trans y2)
  obtain rfl : k = k' := by omega
  have free : v.1 0 s = -1 := by
    rcases hM.1 with q | q
    · exact q
    · rcases (h5.1 s hs).2 with q' | ⟨c, c1, c2, c3, -⟩
      · exact q'
      · obtain rfl : c = b := nI_inj (by omega) (by omega) (c2.symm.trans q)
        rw [ew] at c3; exact absurd c3 n01
  refine ⟨sA u 7 (upd (u.1 7) t (nI k)), sA (sA (PS (sA u 7 (upd (u.1 7) t (nI k))) s (nI b) (v.1 6 b)) 5 (upd (u.1 5) b 1)) 6 (upd (u.1 6) b (sN s)), ?_, ?_, ?_⟩
  · unfold pX6_takeAway pX5_takeTop
    rw [rg_n (show b < rl 5 from hb6), k6, ew, if_neg n01, rg_n (show b < rl 6 from hb6), e1, ra_n (show t < rl 7 from ht), y1, bnd_some]
    rw [show nI (k + 1) + (-1) = nI k from by rw [← nI_pred k]; exact (Int32.sub_eq_add_neg _ _).symm]
  · unfold pX6_putOnShip pX0_move
    rw [rg_n (show b < rl 1 from hb6), show (sA u 7 (upd (u.1 7) t (nI k))).1 1 b = v.1 6 b from k2, c_put hs, bnd_some, rs_n (show b < rl 5 from hb6), rs_n (show b < rl 6 from hb6)]; rfl
  · refine ⟨h1, bo_where h2, pl_upd h3 (fun x q _ => q) (Or.inr (Or.inl ⟨rfl, s, hs, rfl, rfl⟩)), yd_pop h4 hN hb ht eh et hk one0, sl_put h5 hN hb (by rw [ew]; decide) hs free, hg, ho, g8, g9, ld_set g10 hs (by rw [free, wt_m1]) (wt_n (by omega)) (by grind), g11, g12, g13, g14, ?_⟩
    intro z hz hz2
    show upd (v.1 0) s (nI b) z = -1 ∨ v.1 2 (z / 12) = 0
    by_cases e : z = s
    · subst e
      have := hM.2.1
      unfold MH at this
      rw [if_neg (by omega)] at this
      exact Or.inr this
    · rw [pk_un e]; exact g15 z hz hz2
theorem mv_land {u v : St} {N O P b s t k : Nat} (h : RelN N O P u v) (hb : b < N) (hs : s < 72) (ht : t < 10) (ew : v.1 10 b = 1) (ep : v.1 11 b = nI s) (eh : v.1 12 t = nI k) (hk : k < 4) :
    ∃ u1 u2, pX6_takeAway (nI b) u = some (0, u1) ∧ pX6_putInYard (nI b) (nI t) u1 = some (0, u2) ∧ RelN N O P u2 (MY (sA v 0 (upd (v.1 0) s (-1))) b t k) := by
  obtain ⟨h1, h2, h3, h4, h5, hg, ho, g8, g9, g10, g11, g12, g13, g14, g15⟩ := id h
  have hN := h1.1
  have hb6 : b < 60 := by omega
  obtain ⟨-, k2, -, -, -, k6, -⟩ := h2 b hb
  obtain ⟨s', z1, e6, e11, eat⟩ := shipslot h hb ew
  obtain rfl : s = s' := nI_inj (by omega) (by omega) (ep.symm.trans e11)
  obtain ⟨k', hk', y1, y2, -, -, -⟩ := h4 t ht
  obtain rfl : k = k' := nI_inj (by omega) (by omega) (eh.symm.trans y2)
  refine ⟨PS u s (-1) (-(v.1 6 b)), PY (PS u s (-1) (-(v.1 6 b))) b t k, ?_, c_putInYard hb6 ht hk y1, ?_⟩
  · unfold pX6_takeAway
    rw [rg_n (show b < rl 5 from hb6), k6, if_pos ew, rg_n (show b < rl 6 from hb6), e6, rg_n (show b < rl 1 from hb6), k2, c_take hs]; rfl
  · refine ⟨h1, bo_where h2, pl_upd h3 (fun x q _ => q) (Or.inl ⟨rfl, t, ht, rfl, rfl⟩), yd_push h4 hN hb (fun x q _ => q) (Nat.le_refl _) (fun _ => by show v.1 10 b ≠ 0; rw [ew]; decide) ht eh hk, sl_take h5 hN hb hs eat n01, hg, ho, g8, g9, ld_set g10 hs (by rw [eat, wt_n (by omega)]) wt_m1 (by grind), g11, g12, g13, g14, ?_⟩
    intro z hz hz2
    show upd (v.1 0) s (-1) z = -1 ∨ v.1 2 (z / 12) = 0
    by_cases e : z = s
    · subst e; rw [pk_us]; exact Or.inl rfl
    · rw [pk_un e]; exact g15 z hz hz2
theorem mv_shift {u v : St} {N O P b s s0 : Nat} (h : RelN N O P u v) (hb : b < N) (hs : s < 72) (hs0 : s0 < 72) (ew : v.1 10 b = 1) (ep : v.1 11 b = nI s0) (hne : s ≠ s0) (hM : MB N v b s) :
    ∃ u1 u2, pX6_takeAway (nI b) u = some (0, u1) ∧ pX6_putOnShip (nI b) (sN s) u1 = some (0, u2) ∧ RelN N O P u2 (sA (sA (sA (sA v 0 (upd (v.1 0) s0 (-1))) 10 (upd (v.1 10) b 1)) 11 (upd (v.1 11) b (nI s))) 0 (upd (upd (v.1 0) s0 (-1)) s (nI b))) := by
  obtain ⟨h1, h2, h3, h4, h5, hg, ho, g8, g9, g10, g11, g12, g13, g14, g15⟩ := id h
  have hN := h1.1
  have hb6 : b < 60 := by omega
  obtain ⟨-, k2, -, -, -, k6, -⟩ := h2 b hb
  obtain ⟨s', z1, e6, e11, eat⟩ := shipslot h hb ew
  obtain rfl : s0 = s' := nI_inj (by omega) (by omega) (ep.symm.trans e11)
  have free : v.1 0 s = -1 := by
    rcases hM.1 with q | q
    · exact q
    · rcases (h5.1 s hs).2 with q' | ⟨c, c1, c2, c3, c4⟩
      · exact q'
      · obtain rfl : c = b := nI_inj (by omega) (by omega) (c2.symm.trans q)
        exact absurd (nI_inj (by omega) (by omega) (c4.symm.trans ep)) hne
  have free2 : upd (v.1 0) s0 (-1) s = -1 := by rw [pk_un hne]; exact free
  refine ⟨PS u s0 (-1) (-(v.1 6 b)), sA (sA (PS (PS u s0 (-1) (-(v.1 6 b))) s (nI b) (v.1 6 b)) 5 (upd (u.1 5) b 1)) 6 (upd (u.1 6) b (sN s)), ?_, ?_, ?_⟩
  · unfold pX6_takeAway
    rw [rg_n (show b < rl 5 from hb6), k6, if_pos ew, rg_n (show b < rl 6 from hb6), e6, rg_n (show b < rl 1 from hb6), k2, c_take hs0]; rfl
  · unfold pX6_putOnShip pX0_move
    rw [rg_n (show b < rl 1 from hb6), show (PS u s0 (-1) (-(v.1 6 b))).1 1 b = v.1 6 b from k2, c_put hs, bnd_some, rs_n (show b < rl 5 from hb6), rs_n (show b < rl 6 from hb6)]; rfl
  · have t1 := sl_take (x := 2) (y := 0) h5 hN hb hs0 eat (by decide)
    have t2 := sl_put t1 hN hb (by rw [pk_us]; decide) hs free2
    rw [pk_uu, pk_uu] at t2
    have l1 := ld_set g10 hs0 (by rw [eat, wt_n (show b < 2 ^ 31 by omega)]) (wt_m1 (tr := v.1 6)) (d := -(v.1 6 b)) (by grind)
    have l2 := ld_set l1 hs (by rw [free2, wt_m1]) (wt_n (tr := v.1 6) (show b < 2 ^ 31 by omega)) (d := v.1 6 b) (by grind)
    refine ⟨h1, bo_where h2, pl_upd h3 (fun x q _ => q) (Or.inr (Or.inl ⟨rfl, s, hs, rfl, rfl⟩)), yd_keep h4 (fun x q _ => q) (Nat.le_refl _) (fun _ => by show v.1 10 b ≠ 0; rw [ew]; decide) one0, t2, hg, ho, g8, g9, l2, g11, g12, g13, g14, ?_⟩
    intro z hz hz2
    show upd (upd (v.1 0) s0 (-1)) s (nI b) z = -1 ∨ v.1 2 (z / 12) = 0
    by_cases e : z = s
    · subst e
      have := hM.2.1
      unfold MH at this
      rw [if_neg (by omega)] at this
      exact Or.inr this
    · rw [pk_un e]
      by_cases e' : z = s0
      · subst e'; rw [pk_us]; exact Or.inl rfl
      · rw [pk_un e']; exact g15 z hz hz2
/-- the end of a lift: the order goes, 10 are paid -/
theorem fin_lift {u v w : St} {N O P o : Nat} (h : RelN N O P u (sS w 8 (v.2 8 + 10))) (e8 : w.2 8 = v.2 8) (e17 : w.1 17 = v.1 17) (e0 : w.2 0 = v.2 0) (e7 : w.2 7 = v.2 7) (ho : o < O) : ∃ u' v', pX2_remove (nI o) u = some (0, u') ∧ pX7_does_b149 (nI o) w = some (0, v') ∧ RelN N (O - 1) P u' v' ∧ v'.1 17 = v.1 17 ∧ v'.2 0 = v.2 0 ∧ v'.2 7 = v.2 7 := by
  have h1 := h.1
  have hO := h1.2.1
  have e6 : w.2 6 = nI O := h1.2.2.2.2.2.2.1
  refine ⟨_, sS (mQ (sS w 6 (nI (O - 1))) o (O - 1)) 8 (v.2 8 + 10), c_remove h1.2.2.2.2.2.1 hO ho, ?_, rel_remove h ho, e17, e0, e7⟩
  unfold pX7_does_b149
  rw [m_remove e6 hO ho, bnd_some, show (mQ (sS w 6 (nI (O - 1))) o (O - 1)).2 8 = v.2 8 from e8]
theorem PO_0 {N P o b s : Nat} {v : St} (hN : N ≤ 60) (hw : v.1 18 o = 0) (hb : b < N) (hs : s < 72) (eb : v.1 19 o = nI b) (eg : v.1 20 o = nI s) : PO N P v o ↔ LO P v b ∧ MB N v b s := by
  refine ⟨fun q => ?_, fun q => Or.inl ⟨hw, b, s, hb, hs, eb, eg, q⟩⟩
  rcases q with ⟨-, b', s', z1, z2, z3, z4, z5⟩ | ⟨z, -⟩ | ⟨z, -⟩ | ⟨z, -⟩ | ⟨z, -⟩
  · obtain rfl : b = b' := nI_inj (by omega) (by omega) (eb.symm.trans z3)
    obtain rfl : s = s' := nI_inj (by omega) (by omega) (eg.symm.trans z4)
    exact z5
  · rw [hw] at z; exact absurd z n01
  · rw [hw] at z; exact absurd z n02
  · rw [hw] at z; exact absurd z n03
  · rw [hw] at z; exact absurd z n04
theorem PO_1 {N P o b t s0 : Nat} {v : St} (hN : N ≤ 60) (hw : v.1 18 o = 1) (hb : b < N) (ht : t < 10) (hs0 : s0 < 72) (eb : v.1 19 o = nI b) (eg : v.1 20 o = nI t) (ew : v.1 10 b = 1) (ep : v.1 11 b = nI s0) (hT : TK v s0) (h7 : v.1 9 b = 7) : PO N P v o ↔ SM (v.1 5 b) t v := by
  refine ⟨fun q => ?_, fun q => Or.inr (Or.inl ⟨hw, b, t, s0, hb, ht, hs0, eb, eg, ew, ep, hT, h7, q⟩)⟩
  rcases q with ⟨z, -⟩ | ⟨-, b', t', s', z1, z2, z3, z4, z5, z6, z7, z8, z9, z10⟩ | ⟨z, -⟩ | ⟨z, -⟩ | ⟨z, -⟩
  · rw [hw] at z; exact absurd z one0
  · obtain rfl : b = b' := nI_inj (by omega) (by omega) (eb.symm.trans z4)
    obtain rfl : t = t' := nI_inj (by omega) (by omega) (eg.symm.trans z5)
    exact z10
  · rw [hw] at z; exact absurd z n12
  · rw [hw] at z; exact absurd z n13
  · rw [hw] at z; exact absurd z n14
theorem PO_2 {N P o b s s0 : Nat} {v : St} (hN : N ≤ 60) (hw : v.1 18 o = 2) (hb : b < N) (hs : s < 72) (hs0 : s0 < 72) (eb : v.1 19 o = nI b) (eg : v.1 20 o = nI s) (ew : v.1 10 b = 1) (ep : v.1 11 b = nI s0) (hT : TK v s0) (hne : s ≠ s0) : PO N P v o ↔ MB N v b s := by
  refine ⟨fun q => ?_, fun q => Or.inr (Or.inr (Or.inl ⟨hw, b, s, s0, hb, hs, hs0, eb, eg, ew, ep, hT, hne, q⟩))⟩
  rcases q with ⟨z, -⟩ | ⟨z, -⟩ | ⟨-, b', s', s1, z1, z2, z3, z4, z5, z6, z7, z8, z9, z10⟩ | ⟨z, -⟩ | ⟨z, -⟩
  · rw [hw] at z; exact absurd z n20
  · rw [hw] at z; exact absurd z n21
  · obtain rfl : b = b' := nI_inj (by omega) (by omega) (eb.symm.trans z4)
    obtain rfl : s = s' := nI_inj (by omega) (by omega) (eg.symm.trans z5)
    exact z10
  · rw [hw] at z; exact absurd z n23
  · rw [hw] at z; exact absurd z n24
theorem does_ok {u v : St} {N O P o : Nat} (h : RelN N O P u v) (ho : o < O) (hP : PO N P v o) : ∃ u1 u' v', pX6_lift (rg u 15 (nI o)) (rg u 16 (nI o)) (rg u 17 (nI o)) u = some (0, u1) ∧ pX2_remove (nI o) u1 = some (0, u') ∧ pX7_does (nI o) v = some (0, v') ∧ RelN N (O - 1) P u' v' ∧ v'.1 17 = v.1 17 ∧ v'.2 0 = v.2 0 ∧ v'.2 7 = v.2 7 := by
  obtain ⟨h1, h2, h3, h4, h5, hg, hop, hjm, g9, g10, g11, hcr, hq, g14, g15⟩ := id h
  have hN := h1.1
  have hO := h1.2.1
  have ho20 : o < 20 := by omega
  have co : (nI o).toNatClampNeg = o := nI_clamp (by omega)
  have K60 : 60 < 2 ^ 31 := by decide
  have K72 : 72 < 2 ^ 31 := by decide
  have K20 : 20 < 2 ^ 31 := by decide
  have K10 : 10 < 2 ^ 31 := by decide
  obtain ⟨q1, q2, q3⟩ := hq o ho
  have e2c : u.2 2 = v.2 8 := h1.2.2.2.2.2.2.2.2.2.2.1
  have w6 : rg u 15 (nI o) = v.1 18 o := by rw [rg_n (show o < rl 15 from ho20), q1]
  have i6 : rg u 16 (nI o) = v.1 19 o := by rw [rg_n (show o < rl 16 from ho20), q2]
  have p6 : rg u 17 (nI o) = u.1 17 o := rg_n (show o < rl 17 from ho20)
  rw [w6, i6, p6]
  -- ten more are paid
  have hpay : RelN N O P (sS u 2 (u.2 2 + 10)) (sS v 8 (v.2 8 + 10)) := by
    obtain ⟨s1, s2, s3, s4, s5, s6, s7, s8, s9, s10, s11, s12⟩ := h1
    exact ⟨⟨s1, s2, s3, s4, s5, s6, s7, s8, s9, s10, by show u.2 2 + 10 = v.2 8 + 10; rw [s11], s12⟩, h.2⟩
  -- a box's weight is told
  have told : ∀ b, b < N → RelN N O P (sA (sS u 2 (u.2 2 + 10)) 0 (upd (u.1 0) b (u.1 1 b))) (sS (sA v 5 (upd (v.1 5) b (v.1 6 b))) 8 (v.2 8 + 10)) := fun b hb => ⟨hpay.1, bo_told h2 hb, hpay.2.2⟩
  have told2 : ∀ b, b < N → RelN N O P (sA u 0 (upd (u.1 0) b (u.1 1 b))) (sA v 5 (upd (v.1 5) b (v.1 6 b))) := fun b hb => ⟨h1, bo_told h2 hb, h.2.2⟩
  rcases hP with ⟨hw, b, s, hb, hs, eb, eg, hL, hM⟩ | ⟨hw, b, t, s0, hb, ht, hs0, eb, eg, ew, ep, hT, h7, hM⟩ | ⟨hw, b, s, s0, hb, hs, hs0, eb, eg, ew, ep, hT, hne, hM⟩ | ⟨hw, y, hy, ey, c0, cT, cJ⟩ | ⟨hw, y, hy, ey, c1⟩
  · -- LOAD
    have hb6 : b < 60 := by omega
    have cb : (nI b).toNatClampNeg = b := nI_clamp (by omega)
    have ep6 : u.1 17 o = sN s := by
      rcases q3 with ⟨-, -, s', z1, z2, z3⟩ | ⟨z, -⟩ | ⟨z, -⟩
      · obtain rfl : s = s' := nI_inj (by omega) (by omega) (eg.symm.trans z3)
        exact z2
      · rw [hw] at z; exact absurd z n01
      · rw [hw] at z; rcases z with z | z
        · exact absurd z n03
        · exact absurd z n04
    have hr := told b hb
    obtain ⟨tl0, ⟨t, k, ht, hk, yp, yh, yt⟩, -, -⟩ := id hL
    have ct : (nI t).toNatClampNeg = t := nI_clamp (by omega)
    have lift6 : pX6_lift (v.1 18 o) (v.1 19 o) (u.1 17 o) u = bnd (pX6_mayBeIn (nI b) (sN s) (sA (sS u 2 (u.2 2 + 10)) 0 (upd (u.1 0) b (u.1 1 b)))) (fun r5 w6 => if r5 = 0 then (some (0, w6)) else (bnd (pX6_takeAway (nI b) w6) (fun r9 w10 => bnd (pX6_putOnShip (nI b) (sN s) w10) (fun r12 w13 => some (0, w13))))) := by
      unfold pX6_lift
      rw [hw, eb, ep6, if_neg n03, if_neg n04, if_neg n01, rg_n (show b < rl 1 from hb6), rs_n (show b < rl 0 from hb6)]; rfl
    have does7 : pX7_does (nI o) v = pX7_does_b39 (nI o) (nI b) 1 (sA v 5 (upd (v.1 5) b (v.1 6 b))) := by
      unfold pX7_does pX7_does_b22
      simp only [ckS ho20 K20, ckS2 ho20 K20, if_false, co]
      rw [hw, if_neg (show ¬ (3 : Int32) ≤ 0 by decide), if_neg one0, eb, ck hb6 K60, ck hb6 K60, cb]
    have mp : pX7_isPossible (nI o) (sA v 5 (upd (v.1 5) b (v.1 6 b))) = some (b2p (MB N (sA v 5 (upd (v.1 5) b (v.1 6 b))) b s), sA v 5 (upd (v.1 5) b (v.1 6 b))) := by
      rw [(can_all (c := 0) (told2 b hb) ho (by decide)).2.2, b2p_c (show PO N P (sA v 5 (upd (v.1 5) b (v.1 6 b))) o ↔ MB N (sA v 5 (upd (v.1 5) b (v.1 6 b))) b s from (PO_0 (v := sA v 5 (upd (v.1 5) b (v.1 6 b))) hN hw hb hs eb eg).trans ⟨fun q => q.2, fun q => ⟨hL, q⟩⟩)]
    have mp6 : pX6_mayBeIn (nI b) (sN s) (sA (sS u 2 (u.2 2 + 10)) 0 (upd (u.1 0) b (u.1 1 b))) = some (b2p (MB N (sA v 5 (upd (v.1 5) b (v.1 6 b))) b s), sA (sS u 2 (u.2 2 + 10)) 0 (upd (u.1 0) b (u.1 1 b))) := (c_mayBeIn hr hb hs).trans (by rw [b2p_c (show MB N (sS (sA v 5 (upd (v.1 5) b (v.1 6 b))) 8 (v.2 8 + 10)) b s ↔ MB N (sA v 5 (upd (v.1 5) b (v.1 6 b))) b s from Iff.rfl)])
    rw [lift6, does7, mp6, bnd_some]
    unfold pX7_does_b39
    rw [mp, bnd_some]
    rcases Classical.em (MB N (sA v 5 (upd (v.1 5) b (v.1 6 b))) b s) with cM | cM
    · rw [b2p_t cM, if_neg one0, if_neg one0, if_neg one0]
      obtain ⟨x1, x2, y1, y2, y3⟩ := mv_load hr hb hs ht hk tl0 yp yh yt cM
      rw [y1, bnd_some, y2, bnd_some]
      simp only [ckS hb6 K60, ckS2 hb6 K60, if_false, cb]
      rw [if_pos (show (sA v 5 (upd (v.1 5) b (v.1 6 b))).1 10 b = 0 from tl0), show (sA v 5 (upd (v.1 5) b (v.1 6 b))).1 11 b = nI t from yp]
      simp only [ckS ht K10, ckS2 ht K10, if_false, ct]
      rw [show (sA v 5 (upd (v.1 5) b (v.1 6 b))).1 12 t = nI (k + 1) from yh, nI_pred]
      unfold pX7_does_b114
      simp only [ckS ho20 K20, ckS2 ho20 K20, if_false, co]
      rw [if_neg (show ¬ (sA (sA v 5 (upd (v.1 5) b (v.1 6 b))) 12 (upd ((sA v 5 (upd (v.1 5) b (v.1 6 b))).1 12) t (nI k))).1 18 o = 1 by show ¬ v.1 18 o = 1; rw [hw]; decide), show (sA (sA v 5 (upd (v.1 5) b (v.1 6 b))) 12 (upd ((sA v 5 (upd (v.1 5) b (v.1 6 b))).1 12) t (nI k))).1 20 o = nI s from eg, m_comesAboard hb6 hs, bnd_some]
      obtain ⟨u', v', f1, f2, f3⟩ := fin_lift (v := v) (w := sA (sA (sA (sA (sA v 5 (upd (v.1 5) b (v.1 6 b))) 12 (upd (v.1 12) t (nI k))) 10 (upd (v.1 10) b 1)) 11 (upd (v.1 11) b (nI s))) 0 (upd (v.1 0) s (nI b))) y3 rfl rfl rfl rfl ho
      exact ⟨x2, u', v', rfl, f1, f2, f3⟩
    · rw [b2p_f cM, if_pos rfl, if_pos rfl]
      obtain ⟨u', v', f1, f2, f3⟩ := fin_lift (v := v) (w := sA v 5 (upd (v.1 5) b (v.1 6 b))) hr rfl rfl rfl rfl ho
      exact ⟨_, u', v', rfl, f1, f2, f3⟩
  · -- LAND
    have hb6 : b < 60 := by omega
    have cb : (nI b).toNatClampNeg = b := nI_clamp (by omega)
    have cs0 : (nI s0).toNatClampNeg = s0 := nI_clamp (by omega)
    obtain ⟨-, k2, -⟩ := h2 b hb
    have ep6 : u.1 17 o = nI t := by
      rcases q3 with ⟨z, -⟩ | ⟨-, -, t', z1, z2, z3⟩ | ⟨z, -⟩
      · rw [hw] at z; rcases z with z | z
        · exact absurd z one0
        · exact absurd z n12
      · obtain rfl : t = t' := nI_inj (by omega) (by omega) (eg.symm.trans z3)
        exact z2
      · rw [hw] at z; rcases z with z | z
        · exact absurd z n13
        · exact absurd z n14
    have hr := told b hb
    have lift6 : pX6_lift (v.1 18 o) (v.1 19 o) (u.1 17 o) u = bnd (pX6_mayBeStacked (v.1 6 b) (nI t) (sA (sS u 2 (u.2 2 + 10)) 0 (upd (u.1 0) b (u.1 1 b)))) (fun r5 w6 => if r5 = 0 then (some (0, w6)) else (bnd (pX6_takeAway (nI b) w6) (fun r9 w10 => bnd (pX6_putInYard (nI b) (nI t) w10) (fun r12 w13 => some (0, w13))))) := by
      unfold pX6_lift
      rw [hw, eb, ep6, if_neg n13, if_neg n14, if_pos rfl, rg_n (show b < rl 1 from hb6), rs_n (show b < rl 0 from hb6), rg_n (show b < rl 0 from hb6)]
      rw [show (sA (sS u 2 (u.2 2 + 10)) 0 (upd ((sS u 2 (u.2 2 + 10)).1 0) b ((sS u 2 (u.2 2 + 10)).1 1 b))).1 0 b = v.1 6 b from (show upd (u.1 0) b (u.1 1 b) b = v.1 6 b by rw [pk_us, k2])]; rfl
    have does7 : pX7_does (nI o) v = pX7_does_b39 (nI o) (nI b) 1 (sA v 5 (upd (v.1 5) b (v.1 6 b))) := by
      unfold pX7_does pX7_does_b22
      simp only [ckS ho20 K20, ckS2 ho20 K20, if_false, co]
      rw [hw, if_neg (show ¬ (3 : Int32) ≤ 1 by decide), if_neg one0, eb, ck hb6 K60, ck hb6 K60, cb]
    have e5 : (sA v 5 (upd (v.1 5) b (v.1 6 b))).1 5 b = v.1 6 b := pk_us
    have mp : pX7_isPossible (nI o) (sA v 5 (upd (v.1 5) b (v.1 6 b))) = some (b2p (SM (v.1 6 b) t (sA v 5 (upd (v.1 5) b (v.1 6 b)))), sA v 5 (upd (v.1 5) b (v.1 6 b))) := by
      rw [(can_all (c := 0) (told2 b hb) ho (by decide)).2.2, b2p_c (PO_1 (v := sA v 5 (upd (v.1 5) b (v.1 6 b))) hN hw hb ht hs0 eb eg ew ep hT h7), e5]
    have mp6 : pX6_mayBeStacked (v.1 6 b) (nI t) (sA (sS u 2 (u.2 2 + 10)) 0 (upd (u.1 0) b (u.1 1 b))) = some (b2p (SM (v.1 6 b) t (sA v 5 (upd (v.1 5) b (v.1 6 b)))), sA (sS u 2 (u.2 2 + 10)) 0 (upd (u.1 0) b (u.1 1 b))) := c_mayBeStacked hr (v.1 6 b) ht
    rw [lift6, does7, mp6, bnd_some]
    unfold pX7_does_b39
    rw [mp, bnd_some]
    rcases Classical.em (SM (v.1 6 b) t (sA v 5 (upd (v.1 5) b (v.1 6 b)))) with cM | cM
    · rw [b2p_t cM, if_neg one0, if_neg one0, if_neg one0]
      obtain ⟨k, hk4, y1', y2', -⟩ := h4 t ht
      have hk : k < 4 := by
        have q : v.1 12 t < 4 := cM.1
        rw [y2'] at q
        rcases Nat.lt_or_ge k 4 with q1 | q1
        · exact q1
        · exact absurd q (nI_nlt q1 (by omega))
      obtain ⟨x1, x2, y1, y2, y3⟩ := mv_land hr hb hs0 ht ew ep y2' hk
      rw [y1, bnd_some, y2, bnd_some]
      simp only [ckS hb6 K60, ckS2 hb6 K60, if_false, cb]
      rw [if_neg (show ¬ (sA v 5 (upd (v.1 5) b (v.1 6 b))).1 10 b = 0 by show ¬ v.1 10 b = 0; rw [ew]; decide), show (sA v 5 (upd (v.1 5) b (v.1 6 b))).1 11 b = nI s0 from ep]
      simp only [ckS hs0 K72, ckS2 hs0 K72, if_false, cs0]
      unfold pX7_does_b114
      simp only [ckS ho20 K20, ckS2 ho20 K20, if_false, co]
      rw [if_pos (show (sA (sA v 5 (upd (v.1 5) b (v.1 6 b))) 0 (upd ((sA v 5 (upd (v.1 5) b (v.1 6 b))).1 0) s0 (-1))).1 18 o = 1 from hw), show (sA (sA v 5 (upd (v.1 5) b (v.1 6 b))) 0 (upd ((sA v 5 (upd (v.1 5) b (v.1 6 b))).1 0) s0 (-1))).1 20 o = nI t from eg, m_comesTo hb6 ht hk (show (sA (sA v 5 (upd (v.1 5) b (v.1 6 b))) 0 (upd ((sA v 5 (upd (v.1 5) b (v.1 6 b))).1 0) s0 (-1))).1 12 t = nI k from y2'), bnd_some]
      obtain ⟨u', v', f1, f2, f3⟩ := fin_lift (v := v) (w := MY (sA (sA v 5 (upd (v.1 5) b (v.1 6 b))) 0 (upd (v.1 0) s0 (-1))) b t k) y3 rfl rfl rfl rfl ho
      exact ⟨x2, u', v', rfl, f1, f2, f3⟩
    · rw [b2p_f cM, if_pos rfl, if_pos rfl]
      obtain ⟨u', v', f1, f2, f3⟩ := fin_lift (v := v) (w := sA v 5 (upd (v.1 5) b (v.1 6 b))) hr rfl rfl rfl rfl ho
      exact ⟨_, u', v', rfl, f1, f2, f3⟩
  · -- SHIFT
    have hb6 : b < 60 := by omega
    have cb : (nI b).toNatClampNeg = b := nI_clamp (by omega)
    have cs0 : (nI s0).toNatClampNeg = s0 := nI_clamp (by omega)
    have ep6 : u.1 17 o = sN s := by
      rcases q3 with ⟨-, -, s', z1, z2, z3⟩ | ⟨z, -⟩ | ⟨z, -⟩
      · obtain rfl : s = s' := nI_inj (by omega) (by omega) (eg.symm.trans z3)
        exact z2
      · rw [hw] at z; exact absurd z n21
      · rw [hw] at z; rcases z with z | z
        · exact absurd z n23
        · exact absurd z n24
    have hr := told b hb
    have lift6 : pX6_lift (v.1 18 o) (v.1 19 o) (u.1 17 o) u = bnd (pX6_mayBeIn (nI b) (sN s) (sA (sS u 2 (u.2 2 + 10)) 0 (upd (u.1 0) b (u.1 1 b)))) (fun r5 w6 => if r5 = 0 then (some (0, w6)) else (bnd (pX6_takeAway (nI b) w6) (fun r9 w10 => bnd (pX6_putOnShip (nI b) (sN s) w10) (fun r12 w13 => some (0, w13))))) := by
      unfold pX6_lift
      rw [hw, eb, ep6, if_neg n23, if_neg n24, if_neg n21, rg_n (show b < rl 1 from hb6), rs_n (show b < rl 0 from hb6)]; rfl
    have does7 : pX7_does (nI o) v = pX7_does_b39 (nI o) (nI b) 1 (sA v 5 (upd (v.1 5) b (v.1 6 b))) := by
      unfold pX7_does pX7_does_b22
      simp only [ckS ho20 K20, ckS2 ho20 K20, if_false, co]
      rw [hw, if_neg (show ¬ (3 : Int32) ≤ 2 by decide), if_neg one0, eb, ck hb6 K60, ck hb6 K60, cb]
    have mp : pX7_isPossible (nI o) (sA v 5 (upd (v.1 5) b (v.1 6 b))) = some (b2p (MB N (sA v 5 (upd (v.1 5) b (v.1 6 b))) b s), sA v 5 (upd (v.1 5) b (v.1 6 b))) := by
      rw [(can_all (c := 0) (told2 b hb) ho (by decide)).2.2, b2p_c (PO_2 (v := sA v 5 (upd (v.1 5) b (v.1 6 b))) hN hw hb hs hs0 eb eg ew ep hT hne)]
    have mp6 : pX6_mayBeIn (nI b) (sN s) (sA (sS u 2 (u.2 2 + 10)) 0 (upd (u.1 0) b (u.1 1 b))) = some (b2p (MB N (sA v 5 (upd (v.1 5) b (v.1 6 b))) b s), sA (sS u 2 (u.2 2 + 10)) 0 (upd (u.1 0) b (u.1 1 b))) := (c_mayBeIn hr hb hs).trans (by rw [b2p_c (show MB N (sS (sA v 5 (upd (v.1 5) b (v.1 6 b))) 8 (v.2 8 + 10)) b s ↔ MB N (sA v 5 (upd (v.1 5) b (v.1 6 b))) b s from Iff.rfl)])
    rw [lift6, does7, mp6, bnd_some]
    unfold pX7_does_b39
    rw [mp, bnd_some]
    rcases Classical.em (MB N (sA v 5 (upd (v.1 5) b (v.1 6 b))) b s) with cM | cM
    · rw [b2p_t cM, if_neg one0, if_neg one0, if_neg one0]
      obtain ⟨x1, x2, y1, y2, y3⟩ := mv_shift hr hb hs hs0 ew ep hne cM
      rw [y1, bnd_some, y2, bnd_some]
      simp only [ckS hb6 K60, ckS2 hb6 K60, if_false, cb]
      rw [if_neg (show ¬ (sA v 5 (upd (v.1 5) b (v.1 6 b))).1 10 b = 0 by show ¬ v.1 10 b = 0; rw [ew]; decide), show (sA v 5 (upd (v.1 5) b (v.1 6 b))).1 11 b = nI s0 from ep]
      simp only [ckS hs0 K72, ckS2 hs0 K72, if_false, cs0]
      unfold pX7_does_b114
      simp only [ckS ho20 K20, ckS2 ho20 K20, if_false, co]
      rw [if_neg (show ¬ (sA (sA v 5 (upd (v.1 5) b (v.1 6 b))) 0 (upd ((sA v 5 (upd (v.1 5) b (v.1 6 b))).1 0) s0 (-1))).1 18 o = 1 by show ¬ v.1 18 o = 1; rw [hw]; decide), show (sA (sA v 5 (upd (v.1 5) b (v.1 6 b))) 0 (upd ((sA v 5 (upd (v.1 5) b (v.1 6 b))).1 0) s0 (-1))).1 20 o = nI s from eg, m_comesAboard hb6 hs, bnd_some]
      obtain ⟨u', v', f1, f2, f3⟩ := fin_lift (v := v) (w := sA (sA (sA (sA (sA v 5 (upd (v.1 5) b (v.1 6 b))) 0 (upd (v.1 0) s0 (-1))) 10 (upd (v.1 10) b 1)) 11 (upd (v.1 11) b (nI s))) 0 (upd (upd (v.1 0) s0 (-1)) s (nI b))) y3 rfl rfl rfl rfl ho
      exact ⟨x2, u', v', rfl, f1, f2, f3⟩
    · rw [b2p_f cM, if_pos rfl, if_pos rfl]
      obtain ⟨u', v', f1, f2, f3⟩ := fin_lift (v := v) (w := sA v 5 (upd (v.1 5) b (v.1 6 b))) hr rfl rfl rfl rfl ho
      exact ⟨_, u', v', rfl, f1, f2, f3⟩
  · -- OPEN
    have K6 : 6 < 2 ^ 31 := by decide
    have cy : (nI y).toNatClampNeg = y := nI_clamp (by omega)
    have mp : pX7_isPossible (nI o) v = some (1, v) := by
      rw [(can_all (c := 0) h ho (by decide)).2.2, b2p_t (p := PO N P v o) (Or.inr (Or.inr (Or.inr (Or.inl ⟨hw, y, hy, ey, c0, cT, cJ⟩))))]
    have lift6 : pX6_lift (v.1 18 o) (v.1 19 o) (u.1 17 o) u = some (0, sA (sS u 2 (u.2 2 + 10)) 9 (upd (u.1 9) y 1)) := by
      unfold pX6_lift pX6_lift_b21 pX6_lift_b39
      rw [hw, ey, if_pos rfl, if_pos rfl, rs_n (show y < rl 9 from hy)]; rfl
    have does7 : pX7_does (nI o) v = pX7_does_b149 (nI o) (sA v 2 (upd (v.1 2) y 1)) := by
      unfold pX7_does pX7_does_b22 pX7_does_b39
      simp only [ckS ho20 K20, ckS2 ho20 K20, if_false, co]
      rw [hw, if_pos (show (3 : Int32) ≤ 3 by decide), if_pos trivial, ey, mp, bnd_some, if_neg one0, if_pos trivial, hw, if_pos rfl]
      unfold pX7_does_b71
      rw [ck hy K6, cy]; rfl
    have hr : RelN N O P (sA (sS u 2 (u.2 2 + 10)) 9 (upd (u.1 9) y 1)) (sS (sA v 2 (upd (v.1 2) y 1)) 8 (v.2 8 + 10)) := by
      refine ⟨hpay.1, h2, h3, h4, h5, hg, hop.set (Or.inr rfl), hjm, g9, g10, g11, hcr, hq, g14, ?_⟩
      intro z hz hz2
      show v.1 0 z = -1 ∨ upd (v.1 2) y 1 (z / 12) = 0
      by_cases e : z / 12 = y
      · refine Or.inl (Classical.byContradiction fun q => cT ⟨z % 12, by omega, by omega, ?_⟩)
        rw [show 12 * y + z % 12 = z by omega]; exact q
      · rw [pk_un e]; exact g15 z hz hz2
    rw [lift6, does7]
    obtain ⟨u', v', f1, f2, f3⟩ := fin_lift (v := v) (w := sA v 2 (upd (v.1 2) y 1)) hr rfl rfl rfl rfl ho
    exact ⟨_, u', v', rfl, f1, f2, f3⟩
  · -- SHUT
    have K6 : 6 < 2 ^ 31 := by decide
    have cy : (nI y).toNatClampNeg = y := nI_clamp (by omega)
    have mp : pX7_isPossible (nI o) v = some (1, v) := by
      rw [(can_all (c := 0) h ho (by decide)).2.2, b2p_t (p := PO N P v o) (Or.inr (Or.inr (Or.inr (Or.inr ⟨hw, y, hy, ey, c1⟩))))]
    have lift6 : pX6_lift (v.1 18 o) (v.1 19 o) (u.1 17 o) u = some (0, sA (sS u 2 (u.2 2 + 10)) 9 (upd (u.1 9) y 0)) := by
      unfold pX6_lift pX6_lift_b21 pX6_lift_b39
      rw [hw, ey, if_neg n43, if_pos rfl, if_neg n43, rs_n (show y < rl 9 from hy)]; rfl
    have does7 : pX7_does (nI o) v = pX7_does_b149 (nI o) (sA v 2 (upd (v.1 2) y 0)) := by
      unfold pX7_does pX7_does_b22 pX7_does_b39
      simp only [ckS ho20 K20, ckS2 ho20 K20, if_false, co]
      rw [hw, if_pos (show (3 : Int32) ≤ 4 by decide), if_pos trivial, ey, mp, bnd_some, if_neg one0, if_pos trivial, hw, if_neg n43]
      unfold pX7_does_b71
      rw [ck hy K6, cy]; rfl
    have hr : RelN N O P (sA (sS u 2 (u.2 2 + 10)) 9 (upd (u.1 9) y 0)) (sS (sA v 2 (upd (v.1 2) y 0)) 8 (v.2 8 + 10)) := by
      refine ⟨hpay.1, h2, h3, h4, h5, hg, hop.set (Or.inl rfl), hjm, g9, g10, g11, hcr, hq, g14, ?_⟩
      intro z hz hz2
      show v.1 0 z = -1 ∨ upd (v.1 2) y 0 (z / 12) = 0
      by_cases e : z / 12 = y
      · rw [e, pk_us]; exact Or.inr rfl
      · rw [pk_un e]; exact g15 z hz hz2
    rw [lift6, does7]
    obtain ⟨u', v', f1, f2, f3⟩ := fin_lift (v := v) (w := sA v 2 (upd (v.1 2) y 0)) hr rfl rfl rfl rfl ho
    exact ⟨_, u', v', rfl, f1, f2, f3⟩
