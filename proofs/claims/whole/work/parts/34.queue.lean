/-! THE ROW OF ORDERS -/
theorem pk_uu {f : Nat → Int32} {k : Nat} {x y : Int32} : upd (upd f k x) k y = upd f k y := by
  funext j
  by_cases e : j = k
  · subst e; rw [pk_us, pk_us]
  · rw [pk_un e, pk_un e, pk_un e]
theorem c_append {u : St} {O : Nat} (e : u.2 8 = nI O) (hO : O < 20) (a b c : Int32) : pX2_append a b c u = some (0, sS (sA (sA (sA u 15 (upd (u.1 15) O a)) 16 (upd (u.1 16) O b)) 17 (upd (u.1 17) O c)) 8 (nI (O + 1))) := by
  unfold pX2_append
  rw [e, rs_n (show O < rl 15 from hO)]
  rw [show (sA u 15 (upd (u.1 15) O a)).2 8 = nI O from e, rs_n (show O < rl 16 from hO)]
  rw [show (sA (sA u 15 (upd (u.1 15) O a)) 16 (upd ((sA u 15 (upd (u.1 15) O a)).1 16) O b)).2 8 = nI O from e, rs_n (show O < rl 17 from hO)]
  rw [show ∀ f, (sA (sA (sA u 15 (upd (u.1 15) O a)) 16 (upd ((sA u 15 (upd (u.1 15) O a)).1 16) O b)) 17 f).2 8 = nI O from fun _ => e, nI_1]; rfl
/-- what order puts behind -/
theorem order_put {u v : St} {N O P : Nat} (h : RelN N O P u v) (hO : O < 20) (a b c g : Int32) (hq : (((a = 0 ∨ a = 2) ∧ (∃ x, x < N ∧ b = nI x) ∧ ∃ s, s < 72 ∧ c = sN s ∧ g = nI s) ∨ (a = 1 ∧ (∃ x, x < N ∧ b = nI x) ∧ ∃ t, t < 10 ∧ c = nI t ∧ g = nI t) ∨ ((a = 3 ∨ a = 4) ∧ ∃ y, y < 6 ∧ b = nI y))) :
    RelN N (O + 1) P (sS (sA (sA (sA u 15 (upd (u.1 15) O a)) 16 (upd (u.1 16) O b)) 17 (upd (u.1 17) O c)) 8 (nI (O + 1))) (sS (sA (sA (sA (sS v 0 0) 18 (upd (v.1 18) O a)) 19 (upd (v.1 19) O b)) 20 (upd (v.1 20) O g)) 6 (nI (O + 1))) := by
  obtain ⟨h1, g2, g3, g4, g5, g6, g7, g8, g9, g10, g11, g12, g13, g14⟩ := id h
  obtain ⟨s1, s2, s3, s4, s5, s6, s7, s8⟩ := h1
  refine ⟨⟨s1, hO, s3, s4, s5, rfl, rfl, s8⟩, g2, g3, g4, g5, g6, g7, g8, g9, g10, g11, g12, ?_, g14⟩
  intro o ho
  show upd (u.1 15) O a o = upd (v.1 18) O a o ∧ upd (u.1 16) O b o = upd (v.1 19) O b o ∧ (((upd (v.1 18) O a o = 0 ∨ upd (v.1 18) O a o = 2) ∧ (∃ x, x < N ∧ upd (v.1 19) O b o = nI x) ∧ ∃ s, s < 72 ∧ upd (u.1 17) O c o = sN s ∧ upd (v.1 20) O g o = nI s) ∨ (upd (v.1 18) O a o = 1 ∧ (∃ x, x < N ∧ upd (v.1 19) O b o = nI x) ∧ ∃ t, t < 10 ∧ upd (u.1 17) O c o = nI t ∧ upd (v.1 20) O g o = nI t) ∨ ((upd (v.1 18) O a o = 3 ∨ upd (v.1 18) O a o = 4) ∧ ∃ y, y < 6 ∧ upd (v.1 19) O b o = nI y))
  by_cases e : o = O
  · subst e; simp only [pk_us]; exact ⟨trivial, trivial, hq⟩
  · simp only [pk_un e]; exact g13 o (by omega)
theorem lt5 {k : Nat} (h : k ≤ 4) : k = 0 ∨ k = 1 ∨ k = 2 ∨ k = 3 ∨ k = 4 := by omega
theorem sx_order : Sx_order Rel := by
  rintro u v ⟨N, O, P, h⟩ a1 a2 a3
  have bad : ∀ x : Int32, Rel u (sS v 0 x) := fun x => ⟨N, O, P, h⟩
  obtain ⟨h1, -⟩ := id h
  have hO := h1.2.1
  have eu := h1.2.2.2.2.2.1
  have ev := h1.2.2.2.2.2.2.1
  have bx := box_cases h1.1 h1.2.2.2.1 h1.2.2.2.2.1 a2
  -- the reference's end
  have m95 : ∀ x y z w : Int32, w = 1 ∨ w = 2 ∨ w = 3 → pX7_order_b95 x y z w v = some (0, sS v 0 w) := by
    intro x y z w hw
    unfold pX7_order_b95
    rcases hw with rfl | rfl | rfl
    · rw [t1]
    · rw [t2]
    · rw [t3]
  have out : ∀ (k : Nat) (w : Int32), (k = 0 ∨ k = 2 ∨ k = 1 ∨ k = 3) → (w = (if k = 0 then 0 else if k = 2 then 1 else if k = 1 then 2 else if k = 3 then 3 else 0)) → k ≠ 0 → pX6_order a1 a2 a3 u = some (k, 0, u) → pX7_order a1 a2 a3 v = some (0, sS v 0 w) → ∃ k r u1 b v1, pX6_order a1 a2 a3 u = some (k, r, u1) ∧ (k = 0 ∨ k = 2 ∨ k = 1 ∨ k = 3) ∧ pX7_order a1 a2 a3 v = some (b, v1) ∧ v1.2 0 = (if k = 0 then 0 else if k = 2 then 1 else if k = 1 then 2 else if k = 3 then 3 else 0) ∧ (k = 0 → r = b) ∧ Rel u1 v1 := fun k w hk hw h0 q1 q2 => ⟨k, 0, u, 0, sS v 0 w, q1, hk, q2, hw, fun e => absurd e h0, bad w⟩
  rcases inL a1 0 4 0 4 rfl rfl (by decide) (by decide) with z | ⟨n, -, hn, rfl, z⟩
  · -- no such order
    refine out 2 1 (by decide) rfl (by decide) ?_ ?_
    · simp [pX6_order, isWithin_eq, z]
    · have b51 : ∀ x4 y0, pX7_order_b51 a1 a2 a3 x4 y0 v = some (0, sS v 0 1) := by
        intro x4 y0; unfold pX7_order_b51; rw [if_pos z, m95 _ _ _ _ (Or.inl rfl)]
      have b17 : ∀ y0, pX7_order_b17 a1 a2 a3 y0 v = some (0, sS v 0 1) := by
        intro y0; simp only [pX7_order_b17, pX7_order_b46, pX7_order_b50, b51]; simp
      unfold pX7_order
      rcases bx with ⟨q6, q7⟩ | ⟨b, hb, rfl, q6, q7⟩
      · rw [q7, bnd_some, b17, b17]; simp
      · rw [q7, bnd_some, b17, b17]; simp
  have full : ¬ O < 20 → O = 20 := fun q => by omega
  -- both sides, once its and place are good
  have good : ∀ g : Int32, (((nI n = 0 ∨ nI n = 2) ∧ (∃ x, x < N ∧ a2 = nI x) ∧ ∃ s, s < 72 ∧ a3 = sN s ∧ g = nI s) ∨ (nI n = 1 ∧ (∃ x, x < N ∧ a2 = nI x) ∧ ∃ t, t < 10 ∧ a3 = nI t ∧ g = nI t) ∨ ((nI n = 3 ∨ nI n = 4) ∧ ∃ y, y < 6 ∧ a2 = nI y)) → g = (if nI n < 3 then if nI n = 1 then a3 else pX7_indexOf a3 else 0) → pX6_order (nI n) a2 a3 u = pX6_order_b108 (nI n) a2 a3 u → (∃ x4 : Int32, ¬ x4 = 0 ∧ pX7_order (nI n) a2 a3 v = pX7_order_b51 (nI n) a2 a3 x4 1 v) → ∃ k r u1 b v1, pX6_order (nI n) a2 a3 u = some (k, r, u1) ∧ (k = 0 ∨ k = 2 ∨ k = 1 ∨ k = 3) ∧ pX7_order (nI n) a2 a3 v = some (b, v1) ∧ v1.2 0 = (if k = 0 then 0 else if k = 2 then 1 else if k = 1 then 2 else if k = 3 then 3 else 0) ∧ (k = 0 → r = b) ∧ Rel u1 v1 := by
    intro g hg eg q6 ⟨x4, hx4, q7⟩
    have z1 : ¬ pX7_in (nI n) 0 4 = 0 := by rw [z]; decide
    by_cases hlt : O < 20
    · refine ⟨0, nI (O + 1), _, nI (O + 1), _, ?_, Or.inl rfl, ?_, ?_, fun _ => rfl, N, O + 1, P, order_put h hlt (nI n) a2 a3 g hg⟩
      · rw [q6]; unfold pX6_order_b108
        rw [eu, if_pos (show nI O < 20 from nI_lt (show O < 20 from hlt) (by decide)), c_append eu hlt]; rfl
      · rw [q7]; unfold pX7_order_b51
        rw [if_neg z1, if_neg hx4, if_neg one0, ev, if_neg (show ¬ nI O = 20 from fun e => by have := (nI_eq (show O < 2 ^ 31 by omega) (show 20 < 2 ^ 31 by decide)).mp e; omega)]
        have ckO := ckS hlt (show 20 < 2 ^ 31 by decide)
        have clO : (nI O).toNatClampNeg = O := nI_clamp (by omega)
        have s0 : ∀ w : St, w.2 6 = nI O → ∀ y, pX7_order_b157 y (w.2 6) w = some (nI (O + 1), sS (sA w 20 (upd (w.1 20) O y)) 6 (nI (O + 1))) := by
          intro w hw y
          unfold pX7_order_b157
          rw [hw, ck hlt (by decide), clO, show (sA w 20 (upd (w.1 20) O y)).2 6 = nI O from hw, nI_1]; rfl
        have e1' : (sS v 0 0).2 6 = nI O := ev
        unfold pX7_order_b95
        rw [t0, e1', ck hlt (by decide), clO, show (sA (sS v 0 0) 18 (upd ((sS v 0 0).1 18) O (nI n))).2 6 = nI O from ev, ck hlt (by decide), clO]
        have e3 : (sA (sA (sS v 0 0) 18 (upd ((sS v 0 0).1 18) O (nI n))) 19 (upd ((sA (sS v 0 0) 18 (upd ((sS v 0 0).1 18) O (nI n))).1 19) O a2)).2 6 = nI O := ev
        simp only [s0 _ e3]
        subst eg
        by_cases c3 : nI n < 3
        · rw [if_pos c3, if_pos c3]
          by_cases c1 : nI n = 1
          · rw [if_pos c1, if_pos c1]; rfl
          · rw [if_neg c1, if_neg c1]; rfl
        · rw [if_neg c3, if_neg c3]; rfl
      · rfl
    · have hO20 := full hlt
      subst hO20
      refine out 3 3 (by decide) rfl (by decide) ?_ ?_
      · rw [q6]; unfold pX6_order_b108
        rw [eu, if_neg (show ¬ nI 20 < 20 by decide)]
      · rw [q7]; unfold pX7_order_b51
        rw [if_neg z1, if_neg hx4, if_neg one0, ev, if_pos (show nI 20 = 20 from rfl), m95 _ _ _ _ (Or.inr (Or.inr rfl))]
  have z1 : ¬ pX7_in (nI n) 0 4 = 0 := by rw [z]; decide
  have bad77 : ∀ x4 y0 : Int32, x4 = 0 ∨ y0 = 0 → pX7_order_b51 (nI n) a2 a3 x4 y0 v = some (0, sS v 0 2) := by
    intro x4 y0 hxy
    unfold pX7_order_b51 pX7_order_b77
    rw [if_neg z1, m95 _ _ _ _ (Or.inr (Or.inl rfl))]
    rcases hxy with e | e
    · rw [if_pos e]
    · by_cases q : x4 = 0
      · rw [if_pos q]
      · rw [if_neg q, if_pos e]
  have w6 : ¬ pX6_isWithin (nI n) 0 4 = 0 := z1
  by_cases h3 : 3 ≤ n
  · -- OPEN, SHUT
    have c34 : n = 3 ∨ n = 4 := by omega
    have n3 : (3 : Int32) ≤ nI n := nI_le h3 (by omega)
    have q6 : pX6_order (nI n) a2 a3 u = pX6_order_b29 (nI n) a2 a3 u := by
      unfold pX6_order; rw [if_neg w6]
      rcases c34 with rfl | rfl
      · rw [if_pos (show nI 3 = 3 from rfl)]
      · rw [if_neg (show ¬ nI 4 = 3 by decide), if_pos (show nI 4 = 4 from rfl)]
    have q7 : pX7_order (nI n) a2 a3 v = pX7_order_b51 (nI n) a2 a3 (pX7_isBay a2) 1 v := by
      unfold pX7_order pX7_order_b17 pX7_order_b46
      rw [if_neg (Int32.not_lt.mpr n3), if_pos n3]
    rcases bay_cases a2 with ⟨y6, y7⟩ | ⟨i, hi, rfl, y6, y7⟩
    · refine out 1 2 (by decide) rfl (by decide) ?_ ?_
      · rw [q6]; unfold pX6_order_b29; rw [if_pos y6]
      · rw [q7, bad77 _ _ (Or.inl y7)]
    · refine good 0 (Or.inr (Or.inr ⟨?_, i, hi, rfl⟩)) (by rw [if_neg (Int32.not_lt.mpr n3)]) ?_ ⟨_, ?_, q7⟩
      · rcases c34 with rfl | rfl
        · exact Or.inl rfl
        · exact Or.inr rfl
      · rw [q6]; unfold pX6_order_b29; rw [if_neg (by rw [y6]; decide)]
      · rw [y7]; decide
  · have n3 : nI n < 3 := nI_lt (show n < 3 by omega) (by decide)
    have n3' : ¬ (3 : Int32) ≤ nI n := Int32.not_le.mpr n3
    have ne3 : ¬ nI n = 3 := fun e => h3 (by have := (nI_eq (show n < 2 ^ 31 by omega) (show 3 < 2 ^ 31 by decide)).mp e; omega)
    have ne4 : ¬ nI n = 4 := fun e => h3 (by have := (nI_eq (show n < 2 ^ 31 by omega) (show 4 < 2 ^ 31 by decide)).mp e; omega)
    rcases bx with ⟨q6, q7⟩ | ⟨b, hb, rfl, q6, q7⟩
    · refine out 1 2 (by decide) rfl (by decide) ?_ ?_
      · unfold pX6_order; rw [if_neg w6, if_neg ne3, if_neg ne4, q6]; rfl
      · unfold pX7_order; rw [if_pos n3, q7, bnd_some]
        simp only [pX7_order_b17, pX7_order_b46, pX7_order_b50, bad77 0 _ (Or.inl rfl)]; simp
    · have p6 : pX6_order (nI n) (nI b) a3 u = (if nI n = 1 then (if pX6_isStack a3 = 0 then some (1, 0, u) else pX6_order_b86 (nI n) (nI b) a3 u) else pX6_order_b86 (nI n) (nI b) a3 u) := by
        unfold pX6_order; rw [if_neg w6, if_neg ne3, if_neg ne4, q6]; rfl
      have p7 : pX7_order (nI n) (nI b) a3 v = (if nI n = 1 then (if pX7_isStack a3 = 0 then pX7_order_b51 (nI n) (nI b) a3 1 0 v else pX7_order_b51 (nI n) (nI b) a3 1 1 v) else (if pX7_isSlot a3 = 0 then pX7_order_b51 (nI n) (nI b) a3 1 0 v else pX7_order_b51 (nI n) (nI b) a3 1 1 v)) := by
        unfold pX7_order; rw [if_pos n3, q7, bnd_some]
        unfold pX7_order_b17 pX7_order_b46 pX7_order_b50; rw [if_neg n3']
      by_cases c1 : nI n = 1
      · rw [if_pos c1] at p6 p7
        rcases stack_cases a3 with ⟨y6, y7⟩ | ⟨t, ht, rfl, y6, y7⟩
        · refine out 1 2 (by decide) rfl (by decide) ?_ ?_
          · rw [p6, if_pos y6]
          · rw [p7, if_pos y7, bad77 _ _ (Or.inr rfl)]
        · refine good (nI t) (Or.inr (Or.inl ⟨c1, ⟨b, hb, rfl⟩, t, ht, rfl, rfl⟩)) (by rw [if_pos n3, if_pos c1]) ?_ ⟨1, one0, ?_⟩
          · rw [p6, if_neg (by rw [y6]; decide)]; unfold pX6_order_b86; rw [if_pos c1]
          · rw [p7, if_neg (by rw [y7]; decide)]
      · rw [if_neg c1] at p6 p7
        have c02 : nI n = 0 ∨ nI n = 2 := by
          have hn3 : n = 0 ∨ n = 1 ∨ n = 2 := by omega
          rcases hn3 with rfl | rfl | rfl
          · exact Or.inl rfl
          · exact absurd rfl c1
          · exact Or.inr rfl
        rcases slot_cases a3 with ⟨y6, y7⟩ | ⟨s, hs, rfl, y6, y7⟩
        · refine out 1 2 (by decide) rfl (by decide) ?_ ?_
          · rw [p6]; unfold pX6_order_b86; rw [if_neg c1, if_pos y6]
          · rw [p7, if_pos y7, bad77 _ _ (Or.inr rfl)]
        · refine good (nI s) (Or.inl ⟨c02, ⟨b, hb, rfl⟩, s, hs, rfl, rfl⟩) (by rw [if_pos n3, if_neg c1, (sN_facts s hs).2.1]) ?_ ⟨1, one0, ?_⟩
          · rw [p6]; unfold pX6_order_b86; rw [if_neg c1, if_neg (by rw [y6]; decide)]
          · rw [p7, if_neg (by rw [y7]; decide)]
