/-! BARS -/
theorem r43 : ∀ y, y < 6 → ∀ k, k < 12 → nI ((12 * y + k) / 4 % 3) = nI (k / 4) := by decide +kernel
theorem heel_bays (v : St) : sumN 72 (fun s => wt (v.1 6) (v.1 0 s) * (nI (s / 4 % 3) - 1)) = sumN 6 (HB v) := by
  rw [show (72 : Nat) = 12 * 6 from rfl, sumN_12]
  exact sumN_congr fun y hy => sumN_congr fun k hk => by rw [r43 y hy k hk]
theorem rel_slots {u v : St} {N O P : Nat} (h : RelN N O P u v) : ∀ s, s < 72 → v.1 0 s = -1 ∨ ∃ b, b < N ∧ v.1 0 s = nI b := by
  intro s hs
  obtain ⟨-, -, -, -, h5, -⟩ := h
  rcases (h5.1 s hs).2 with q | ⟨b, q1, q2, -⟩
  · exact Or.inl q
  · exact Or.inr ⟨b, q1, q2⟩
theorem rel_load {u v : St} {N O P : Nat} (h : RelN N O P u v) : (∀ i, i < 6 → u.1 12 i = LB v i) ∧ u.2 7 = sumN 6 (HB v) := by
  obtain ⟨-, -, -, -, -, -, -, -, -, g10, -⟩ := h
  exact ⟨g10.1, g10.2.trans (heel_bays v)⟩
theorem mo_both {u v : St} {N O P a : Nat} (h : RelN N O P u v) (ha : a ≤ 6) : ∃ g, pX7_momentOf (nI a) v = some (mK u a, sA v 21 g) := by
  obtain ⟨l1, l2⟩ := rel_load h
  obtain ⟨g, z1, z2⟩ := m_bays h.1.1 (rel_slots h) (nI a) 100 0 (by omega) (by omega) (v.1 21) (fun i hi => absurd hi (by omega))
  rw [sA_self] at z2
  refine ⟨g, ?_⟩
  show pX7_momentOf_b7 100 (nI a) (sumN 0 (HB v)) (sumN 0 (LB v)) (nI 0) v = _
  rw [z2]
  unfold mK
  by_cases e : a = 6
  · subst e
    rw [if_pos (show nI 6 = 6 from rfl), if_pos rfl, l2]
  · rw [if_neg (fun q => e (nI_inj (by omega) (by decide) (q.trans (show (6 : Int32) = nI 6 from rfl)))), if_neg e]
    have q := m_cut (w := sA v 21 g) (a := nI a) (t := sumN 6 (LB v)) 100 0 (by omega) (by omega)
    show pX7_momentOf_b143 100 (nI a) (sumN 6 (LB v)) (sumN 0 (MT ((sA v 21 g).1 21) (nI a))) (nI 0) (sA v 21 g) = _
    rw [q, lever_sum (by omega) 6 (Nat.le_refl _)]
    have r1 : sumN 6 (MT ((sA v 21 g).1 21) (nI a)) = sumN 6 (MT (u.1 12) (nI a)) := sumN_congr fun i hi => by
      unfold MT
      rw [show (sA v 21 g).1 21 i = g i from rfl, z1 i hi, l1 i hi]
    have r2 : sumN 6 (LB v) = sumN 6 (u.1 12) := sumN_congr fun i hi => (l1 i hi).symm
    rw [r1, r2]
theorem wt_bd {u v : St} {N O P s : Nat} (h : RelN N O P u v) (hs : s < 72) : BD 40 (wt (v.1 6) (v.1 0 s)) := by
  rcases rel_slots h s hs with z | ⟨b, hb, z⟩
  · rw [z, wt_m1]; exact BD_nI (k := 0) (by omega) (by omega)
  · have hN := h.1.1
    rw [z, wt_n (by omega)]
    obtain ⟨-, -, -, -, -, -, ⟨w, w1, w2, ew⟩, -⟩ := h.2.1 b hb
    rw [ew]; exact BD_nI w2 (by omega)
theorem lever_bd : ∀ i, i < 6 → ∀ a, a < 6 → (pX6_leverOf (nI i) (nI a)).toInt.natAbs ≤ 6 := by decide +kernel
theorem row_bd : ∀ k, k < 12 → (nI (k / 4) - 1).toInt.natAbs ≤ 1 := by decide +kernel
theorem mK_bd {u v : St} {N O P a : Nat} (h : RelN N O P u v) (ha : a ≤ 6) : BD 100000 (mK u a) := by
  obtain ⟨l1, l2⟩ := rel_load h
  obtain ⟨-, -, -, -, -, -, -, -, hw, -⟩ := id h
  unfold mK
  by_cases e : a = 6
  · rw [if_pos e, l2]
    have q := BD_sum (B := 480) (C := 2880) (f := HB v) 6 (fun y hy => BD_sum (B := 40) (C := 480) 12 (fun k hk => BD_mul (wt_bd h (show 12 * y + k < 72 by omega)) (row_bd k hk) (Nat.le_refl _) (by omega)) (by omega) (by omega)) (by omega) (by omega)
    unfold BD at *; omega
  · rw [if_neg e]
    have q := BD_sum (B := 3474) (C := 20844) (f := fun i => u.1 12 i * pX6_leverOf (nI i) (nI a)) 6 (fun i hi => by
      refine BD_mul (A := 579) (B := 6) ?_ (lever_bd i hi a (by omega)) (by omega) (by omega)
      rw [l1 i hi]
      obtain ⟨-, k, hk, ek⟩ := hw i hi
      refine BD_add (A := 99) (B := 480) (by rw [ek]; exact BD_nI hk (by omega)) (BD_sum (B := 40) (C := 480) 12 (fun k hk => wt_bd h (by omega)) (by omega) (by omega)) (by omega) (by omega)) (by omega) (by omega)
    unfold BD at *; omega
/-- beyond a bound, as both tell it -/
def BY (x b : Int32) : Prop := ¬ pX7_isBeyond x b = 0
theorem by_iff {x b : Int32} (hx : BD 100000 x) (hb : 0 ≤ b) : ((if 0 ≤ x then x else 0 - x) ≤ b) ↔ ¬ BY x b := by
  unfold BY BD at *
  have hb' : 0 ≤ b.toInt := Int32.le_iff_toInt_le.mp hb
  have h1 := Int32.toInt_lt b
  have n1 : (-b).toInt = - b.toInt := by rw [Int32.toInt_neg, Int.bmod_eq_of_le (by omega) (by omega)]
  have n2 : (0 - x).toInt = - x.toInt := by rw [Int32.toInt_sub, show (0 : Int32).toInt = 0 from rfl, Int.bmod_eq_of_le (by omega) (by omega)]; omega
  have e0 : (0 ≤ x) ↔ 0 ≤ x.toInt := Int32.le_iff_toInt_le
  have e1 : (b < x) ↔ b.toInt < x.toInt := Int32.lt_iff_toInt_lt
  have e2 : (-b ≤ x) ↔ - b.toInt ≤ x.toInt := by rw [Int32.le_iff_toInt_le, n1]
  have e3 : (x ≤ b) ↔ x.toInt ≤ b.toInt := Int32.le_iff_toInt_le
  have e4 : (0 - x ≤ b) ↔ - x.toInt ≤ b.toInt := by rw [Int32.le_iff_toInt_le, n2]
  unfold pX7_isBeyond pX7_isBeyond_b11
  by_cases c0 : 0 ≤ x <;> by_cases c1 : b < x <;> by_cases c2 : -b ≤ x
  all_goals simp only [c0, c1, c2, if_true, if_false, one0, not_true, not_false_iff, iff_true, iff_false, e3, e4]
  all_goals (rw [e0] at c0; rw [e1] at c1; rw [e2] at c2)
  all_goals first | omega | exact absurd ‹_› (by omega)
theorem sx_moment : Sx_moment Rel := by
  rintro u v ⟨N, O, P, h⟩ a1
  rcases inL a1 0 6 0 6 rfl rfl (by decide) (by decide) with z | ⟨a, g1, g2, rfl, z⟩
  · refine ⟨2, 0, u, 0, sS v 0 1, ?_, Or.inr rfl, ?_, rfl, fun h => absurd h (by decide), N, O, P, h⟩
    · unfold pX6_moment; rw [isWithin_eq, if_pos z]
    · unfold pX7_moment pX7_moment_b16; rw [if_pos z, t1]
  · have h' : RelN N O P u (sS v 0 0) := h
    obtain ⟨g, q⟩ := mo_both h' g2
    refine ⟨0, mK u a, u, mK u a, sA (sS v 0 0) 21 g, ?_, Or.inl rfl, ?_, rfl, fun _ => rfl, N, O, P, h⟩
    · unfold pX6_moment; rw [isWithin_eq, if_neg (by rw [z]; decide), c_kept g2]; rfl
    · unfold pX7_moment pX7_moment_b16; rw [if_neg (by rw [z]; decide), t0, q]; rfl
