/-! HOURS -/
theorem sS_uu {u : St} {k : Nat} {x y : Int32} : sS (sS u k x) k y = sS u k y := by
  unfold sS
  congr 1
  funext j
  by_cases e : j = k
  · subst e; simp [va_up]
  · simp [va_up, e]
/-- the first order that a crane can do -/
theorem first_both {u v : St} {N O P c : Nat} (h : RelN N O P u v) (hc : c < 2) : ∀ n x, x ≤ O → O < x + n →
    (∃ o, o < O ∧ PO N P v o ∧ pX6_firstFor_b2 n (nI c) (nI x) u = some (nI o, u) ∧ ∀ K x2 x3, pX7_liftsOf_b17 K n (nI c) x2 x3 (nI x) v = pX7_liftsOf_b42 K (nI c) x2 x3 (nI o) v) ∨
    (pX6_firstFor_b2 n (nI c) (nI x) u = some (-1, u) ∧ ∀ K x2 x3, pX7_liftsOf_b17 K n (nI c) x2 x3 (nI x) v = pX7_liftsOf_b42 K (nI c) x2 x3 (nI O) v) := by
  have hO := h.1.2.1
  have e6 : u.2 8 = nI O := h.1.2.2.2.2.2.1
  have e7 : v.2 6 = nI O := h.1.2.2.2.2.2.2.1
  intro n
  induction n with
  | zero => intro x q1 q2; omega
  | succ n ih =>
    intro x q1 q2
    rcases Nat.lt_or_ge x O with hx | hx
    · rcases Classical.em (RE N v x c ∧ PO N P v x) with q | q
      · refine Or.inl ⟨x, hx, q.2, ?_, fun K x2 x3 => ?_⟩
        · rw [pX6_firstFor_b2_s, e6, if_neg (nI_ge hx (by omega)), (can_all h hx hc).1, bnd_some, b2p_t q, if_neg one0]
        · rw [pX7_liftsOf_b17_s, e7, if_neg (nI_ge hx (by omega)), m_isDoable h hx hc, bnd_some, b2p_t q, if_neg one0]
      · have s6 : pX6_firstFor_b2 (n + 1) (nI c) (nI x) u = pX6_firstFor_b2 n (nI c) (nI (x + 1)) u := by
          rw [pX6_firstFor_b2_s, e6, if_neg (nI_ge hx (by omega)), (can_all h hx hc).1, bnd_some, b2p_f q, if_pos rfl, nI_1]
        have s7 : ∀ K x2 x3, pX7_liftsOf_b17 K (n + 1) (nI c) x2 x3 (nI x) v = pX7_liftsOf_b17 K n (nI c) x2 x3 (nI (x + 1)) v := by
          intro K x2 x3
          rw [pX7_liftsOf_b17_s, e7, if_neg (nI_ge hx (by omega)), m_isDoable h hx hc, bnd_some, b2p_f q, if_pos rfl, nI_1]
        rcases ih (x + 1) (by omega) (by omega) with ⟨o, z1, z2, z3, z4⟩ | ⟨z1, z2⟩
        · exact Or.inl ⟨o, z1, z2, s6.trans z3, fun K x2 x3 => (s7 K x2 x3).trans (z4 K x2 x3)⟩
        · exact Or.inr ⟨s6.trans z1, fun K x2 x3 => (s7 K x2 x3).trans (z2 K x2 x3)⟩
    · obtain rfl : x = O := by omega
      refine Or.inr ⟨?_, fun K x2 x3 => ?_⟩
      · rw [pX6_firstFor_b2_s, e6, if_pos (nI_le (Nat.le_refl _) (by omega))]
      · rw [pX7_liftsOf_b17_s, e7, if_pos (nI_le (Nat.le_refl _) (by omega))]
theorem m_idle {v : St} {O c m : Nat} (e7 : v.2 6 = nI O) (hO : O ≤ 20) (hc : c < 2) (hm : m ≤ 4) (em : v.1 17 c = nI m) (hI : ∀ K x2 x3, pX7_liftsOf_b17 K 100 (nI c) x2 x3 0 v = pX7_liftsOf_b42 K (nI c) x2 x3 (nI O) v) (d : Int32) : ∀ n x, x ≤ m → m < x + n → pX7_liftsOf_b4 n (nI c) d (nI x) v = some (d, v) := by
  intro n
  induction n with
  | zero => intro x q1 q2; omega
  | succ n ih =>
    intro x q1 q2
    rw [pX7_liftsOf_b4_s, ck hc (by decide), nI_clamp (show c < 2 ^ 31 by omega), em]
    rcases Nat.lt_or_ge x m with hx | hx
    · rw [if_neg (nI_ge hx (by omega)), hI]
      unfold pX7_liftsOf_b42 pX7_liftsOf_b60
      rw [e7, if_pos (nI_le (Nat.le_refl _) (by omega)), nI_1]
      exact ih (x + 1) (by omega) (by omega)
    · rw [if_pos (nI_le hx (by omega))]
theorem work_loop {N P c m : Nat} (hc : c < 2) (hm : m ≤ 4) : ∀ n d O (u v : St), RelN N O P u v → v.1 17 c = nI m → d ≤ m → m < d + n →
    ∃ r u' v' O', pX6_workAnHour_b14 n (nI c) (nI m) (nI d) u = some (r, u') ∧ pX7_liftsOf_b4 n (nI c) (nI d) (nI d) v = some (r, v') ∧ RelN N O' P u' v' ∧ v'.2 0 = v.2 0 ∧ v'.2 7 = v.2 7 := by
  intro n
  induction n with
  | zero => intro d O u v h em q1 q2; omega
  | succ n ih =>
    intro d O u v h em q1 q2
    have hO := h.1.2.1
    have e7 : v.2 6 = nI O := h.1.2.2.2.2.2.2.1
    rcases Nat.lt_or_ge d m with hd | hd
    · rcases first_both h hc 100 0 (Nat.zero_le _) (by omega) with ⟨o, z1, z2, z3, z4⟩ | ⟨z1, z2⟩
      · obtain ⟨u1, u2, v2, y1, y2, y3, y4, y5, y6, y7⟩ := does_ok h z1 z2
        obtain ⟨r, u', v', O', w1, w2, w3, w4⟩ := ih (d + 1) (O - 1) u2 v2 y4 (by rw [y5]; exact em) (by omega) (by omega)
        refine ⟨r, u', v', O', ?_, ?_, w3, w4.1.trans y6, w4.2.trans y7⟩
        · rw [pX6_workAnHour_b14_s, if_neg (nI_ge hd (by omega))]
          unfold pX6_firstFor
          rw [show (0 : Int32) = nI 0 from rfl, z3, bnd_some, if_neg (nI_m1 (by omega)), y1, bnd_some, y2, bnd_some, nI_1]
          exact w1
        · rw [pX7_liftsOf_b4_s, ck hc (by decide), nI_clamp (show c < 2 ^ 31 by omega), em, if_neg (nI_ge hd (by omega)), show (0 : Int32) = nI 0 from rfl, z4]
          unfold pX7_liftsOf_b42 pX7_liftsOf_b60
          rw [e7, if_neg (nI_ge z1 (by omega)), y3, bnd_some, nI_1]
          exact w2
      · refine ⟨nI d, u, v, O, ?_, ?_, h, rfl, rfl⟩
        · rw [pX6_workAnHour_b14_s, if_neg (nI_ge hd (by omega))]
          unfold pX6_firstFor
          rw [show (0 : Int32) = nI 0 from rfl, z1, bnd_some, if_pos rfl]
        · exact m_idle e7 hO hc hm em z2 (nI d) (n + 1) d q1 q2
    · obtain rfl : d = m := by omega
      refine ⟨nI d, u, v, O, ?_, ?_, h, rfl, rfl⟩
      · rw [pX6_workAnHour_b14_s, if_pos (nI_le (Nat.le_refl _) (by omega))]
      · rw [pX7_liftsOf_b4_s, ck hc (by decide), nI_clamp (show c < 2 ^ 31 by omega), em, if_pos (nI_le (Nat.le_refl _) (by omega))]
theorem work_both {u v : St} {N O P c : Nat} (h : RelN N O P u v) (hc : c < 2) : ∃ r u' v' O', pX6_workAnHour (nI c) u = some (r, u') ∧ pX7_liftsOf (nI c) v = some (r, v') ∧ RelN N O' P u' v' ∧ v'.2 0 = v.2 0 ∧ v'.2 7 = v.2 7 := by
  obtain ⟨h1, h2, h3, h4, h5, hg, ho, g8, g9, g10, g11, hcr, -⟩ := id h
  obtain ⟨-, -, e20, m, hm, em⟩ := hcr c hc
  obtain ⟨r, u', v', O', w1, w2, w3, w4⟩ := work_loop (N := N) (P := P) hc hm 100 0 O u v h em (Nat.zero_le _) (by omega)
  refine ⟨r, u', v', O', ?_, w2, w3, w4⟩
  unfold pX6_workAnHour
  rw [rg_n (show c < rl 20 from hc), e20, em]
  exact w1
theorem pay_any {u v : St} {N O P : Nat} (h : RelN N O P u v) (y : Int32) : RelN N O P (sS u 2 y) (sS v 8 y) := by
  obtain ⟨⟨s1, s2, s3, s4, s5, s6, s7, s8, s9, s10, s11, s12⟩, h'⟩ := h
  exact ⟨⟨s1, s2, s3, s4, s5, s6, s7, s8, s9, s10, rfl, s12⟩, h'⟩
theorem fee_loop {u v : St} {N O P : Nat} (h : RelN N O P u v) : ∀ n x, x ≤ N → N < x + n → ∃ s : Int32, (∀ x1, pX6_overdueBoxes_b4 n x1 (nI x) u = some (x1 + s, u)) ∧ ∀ K a1 x2 x3 y, pX7_pass_b81 K n a1 x2 x3 (nI x) (sS v 8 y) = K a1 x2 (x3 + 1) (sS (sS v 8 (y + s)) 7 (v.2 7 + 1)) := by
  obtain ⟨h1, h2, -⟩ := id h
  have hN := h1.1
  have e6 : u.2 6 = nI N := h1.2.2.2.1
  have e7 : v.2 4 = nI N := h1.2.2.2.2.1
  intro n
  induction n with
  | zero => intro x q1 q2; omega
  | succ n ih =>
    intro x q1 q2
    rcases Nat.lt_or_ge x N with hx | hx
    · obtain ⟨s, w1, w2⟩ := ih (x + 1) (by omega) (by omega)
      have hx6 : x < 60 := by omega
      have cx : (nI x).toNatClampNeg = x := nI_clamp (by omega)
      obtain ⟨-, -, k3, -, -, k6, -⟩ := h2 x hx
      by_cases ew : v.1 10 x = 0
      · have a6 := (ahead_both h hx).1
        have a7 : ∀ y, pX7_isAhead (v.1 7 x) (sS v 8 y) = some (b2p (AH P v x), sS v 8 y) := fun y => (ahead_both (pay_any h y) hx).2
        by_cases eA : AH P v x
        · refine ⟨s, fun x1 => ?_, fun K a1 x2 x3 y => ?_⟩
          · rw [pX6_overdueBoxes_b4_s, e6, if_neg (nI_ge hx (by omega)), rg_n (show x < rl 5 from hx6), k6, if_pos ew, rg_n (show x < rl 2 from hx6), k3, a6, bnd_some, b2p_t eA, if_neg one0]
            unfold pX6_overdueBoxes_b50
            rw [nI_1]; exact w1 x1
          · rw [pX7_pass_b81_s, show (sS v 8 y).2 4 = nI N from e7, if_neg (nI_ge hx (by omega)), ck hx6 (by decide), ck hx6 (by decide), cx, if_pos (show (sS v 8 y).1 10 x = 0 from ew), show (sS v 8 y).1 7 x = v.1 7 x from rfl, a7, bnd_some, b2p_t eA, if_neg one0]
            unfold pX7_pass_b123 pX7_pass_b124
            rw [nI_1, sS_uu, show (sS v 8 y).2 8 + 0 = y from Int32.add_zero y]; exact w2 K a1 x2 x3 y
        · refine ⟨1 + s, fun x1 => ?_, fun K a1 x2 x3 y => ?_⟩
          · rw [pX6_overdueBoxes_b4_s, e6, if_neg (nI_ge hx (by omega)), rg_n (show x < rl 5 from hx6), k6, if_pos ew, rg_n (show x < rl 2 from hx6), k3, a6, bnd_some, b2p_f eA, if_pos rfl]
            unfold pX6_overdueBoxes_b50
            rw [nI_1, w1, Int32.add_assoc]
          · rw [pX7_pass_b81_s, show (sS v 8 y).2 4 = nI N from e7, if_neg (nI_ge hx (by omega)), ck hx6 (by decide), ck hx6 (by decide), cx, if_pos (show (sS v 8 y).1 10 x = 0 from ew), show (sS v 8 y).1 7 x = v.1 7 x from rfl, a7, bnd_some, b2p_f eA, if_pos rfl]
            unfold pX7_pass_b124
            rw [nI_1, sS_uu, show (sS v 8 y).2 8 + 1 = y + 1 from rfl, w2, Int32.add_assoc]
      · refine ⟨s, fun x1 => ?_, fun K a1 x2 x3 y => ?_⟩
        · rw [pX6_overdueBoxes_b4_s, e6, if_neg (nI_ge hx (by omega)), rg_n (show x < rl 5 from hx6), k6, if_neg ew]
          unfold pX6_overdueBoxes_b50
          rw [nI_1]; exact w1 x1
        · rw [pX7_pass_b81_s, show (sS v 8 y).2 4 = nI N from e7, if_neg (nI_ge hx (by omega)), ck hx6 (by decide), cx, if_neg (show ¬ (sS v 8 y).1 10 x = 0 from ew)]
          unfold pX7_pass_b123 pX7_pass_b124
          rw [nI_1, sS_uu, show (sS v 8 y).2 8 + 0 = y from Int32.add_zero y]; exact w2 K a1 x2 x3 y
    · obtain rfl : x = N := by omega
      refine ⟨0, fun x1 => ?_, fun K a1 x2 x3 y => ?_⟩
      · rw [pX6_overdueBoxes_b4_s, e6, if_pos (nI_le (Nat.le_refl _) (by omega)), Int32.add_zero]
      · rw [pX7_pass_b81_s, show (sS v 8 y).2 4 = nI x from e7, if_pos (nI_le (Nat.le_refl _) (by omega)), Int32.add_zero]; rfl
theorem pass_loop {N P r : Nat} (hr : r ≤ 24) : ∀ n d O H (u v : St) (x2 : Int32), RelN N O P u v → v.2 0 = 0 → u.2 0 = nI H → d ≤ r → H + (r - d) ≤ 1000 → r < d + n →
    ∃ x u' v' O', pX6_pass_b46 n (nI r) x2 (nI d) u = some (0, x, u') ∧ pX7_pass_b39 n (nI r) x2 (nI d) v = some (x, v') ∧ RelN N O' P u' v' ∧ v'.2 0 = 0 := by
  intro n
  induction n with
  | zero => intro d O H u v x2 h e0 eH q1 q2 q3; omega
  | succ n ih =>
    intro d O H u v x2 h e0 eH q1 q2 q3
    rcases Nat.lt_or_ge d r with hd | hd
    · obtain ⟨r0, u0, v0, O0, a1, a2, a3, a4, a5⟩ := work_both h (show 0 < 2 by decide)
      obtain ⟨r1, u1, v1, O1, b1, b2, b3, b4, b5⟩ := work_both a3 (show 1 < 2 by decide)
      have hN := b3.1.1
      obtain ⟨s, f1, f2⟩ := fee_loop b3 100 0 (Nat.zero_le _) (by omega)
      have e10 : v1.2 0 = 0 := b4.trans (a4.trans e0)
      obtain ⟨g1, g2⟩ := b3
      obtain ⟨s1, s2, s3, s4, s5, s6, s7, s8, s9, s10, s11, s12, s13, s14, s15, s16, s17, H1, hH1, eH1⟩ := g1
      have eH0 : v.2 7 = nI H := h.1.2.2.2.2.2.2.2.2.2.1 ▸ eH
      have hH9 : H ≤ 1000 := by omega
      obtain rfl : H1 = H := nI_inj (by omega) (by omega) (eH1.symm.trans (s10.trans (b5.trans (a5.trans eH0))))
      have hr : RelN N O1 P (sS (sS u1 2 (u1.2 2 + (25 + s))) 0 (u1.2 0 + 1)) (sS (sS v1 8 (v1.2 8 + 25 + s)) 7 (v1.2 7 + 1)) := by
        refine ⟨⟨s1, s2, s3, s4, s5, s6, s7, s8, s9, ?_, ?_, s12, s13, s14, s15, s16, s17, H1 + 1, by omega, ?_⟩, g2⟩
        · show u1.2 0 + 1 = v1.2 7 + 1; rw [s10]
        · show u1.2 2 + (25 + s) = v1.2 8 + 25 + s; rw [s11, Int32.add_assoc]
        · show u1.2 0 + 1 = nI (H1 + 1); rw [eH1, nI_1]
      obtain ⟨x, u', v', O', w1, w2, w3, w4⟩ := ih (d + 1) O1 (H1 + 1) _ _ (x2 + r0 + r1) hr e10 (by show u1.2 0 + 1 = nI (H1 + 1); rw [eH1, nI_1]) (by omega) (by omega) (by omega)
      refine ⟨x, u', v', O', ?_, ?_, w3, w4⟩
      · rw [pX6_pass_b46_s, if_neg (nI_ge hd (by omega)), pX6_pass_b54_s, if_neg (by decide), show (0 : Int32) = nI 0 from rfl, a1, bnd_some, pX6_pass_b54_s, if_neg (by decide), show nI 0 + 1 = nI 1 from rfl, b1, bnd_some, pX6_pass_b54_s, if_pos (by decide)]
        unfold pX6_overdueBoxes
        rw [show (0 : Int32) = nI 0 from rfl, f1, bnd_some, nI_1, show nI 0 + s = s from Int32.zero_add s]
        exact w1
      · rw [pX7_pass_b39_s, if_neg (nI_ge hd (by omega)), if_pos e0, show (0 : Int32) = nI 0 from rfl, a2, bnd_some, show (1 : Int32) = nI 1 from rfl, b2, bnd_some, f2, nI_1]
        exact w2
    · obtain rfl : d = r := by omega
      refine ⟨x2, u, v, O, ?_, ?_, h, e0⟩
      · rw [pX6_pass_b46_s, if_pos (nI_le (Nat.le_refl _) (by omega))]
      · rw [pX7_pass_b39_s, if_pos (nI_le (Nat.le_refl _) (by omega))]; rfl
theorem sx_pass : Sx_pass Rel := by
  rintro u v ⟨N, O, P, h⟩ a1
  have bad : ∀ x : Int32, Rel u (sS v 0 x) := fun x => ⟨N, O, P, h⟩
  have thr : ∀ x : Int32, ¬ x = 0 → pX7_pass_b32 a1 x v = some (0, sS v 0 x) := by
    intro x hx
    unfold pX7_pass_b32
    rw [pX7_pass_b39_s]
    unfold pX7_pass_b150
    by_cases q : a1 ≤ 0
    · rw [if_pos q]
    · rw [if_neg q, if_neg (show ¬ (sS v 0 x).2 0 = 0 from hx)]
  rcases inL a1 1 24 1 24 rfl rfl (by decide) (by decide) with z | ⟨r, g1, g2, rfl, z⟩
  · refine ⟨2, 0, u, 0, sS v 0 1, ?_, Or.inr (Or.inl rfl), ?_, rfl, fun h => absurd h (by decide), bad 1⟩
    · unfold pX6_pass; rw [isWithin_eq, if_pos z]
    · unfold pX7_pass; rw [if_pos z]; exact thr 1 (by decide)
  obtain ⟨⟨s1, s2, s3, s4, s5, s6, s7, s8, s9, s10, s11, s12, s13, s14, s15, s16, s17, H, hH, eH⟩, -⟩ := id h
  have e7 : v.2 7 = nI H := s10 ▸ eH
  rcases Nat.lt_or_ge 1000 (H + r) with q | q
  · have hle : ¬ nI (H + r) ≤ 1000 := nI_ge (show 1000 < H + r from q) (by omega)
    refine ⟨3, 0, u, 0, sS v 0 2, ?_, Or.inr (Or.inr rfl), ?_, rfl, fun h => absurd h (by decide), bad 2⟩
    · unfold pX6_pass; rw [isWithin_eq, if_neg (by rw [z]; decide), eH, nI_add, if_neg hle]
    · unfold pX7_pass; rw [if_neg (by rw [z]; decide), e7, nI_add, if_neg hle]; exact thr 2 (by decide)
  · have hle : nI (H + r) ≤ 1000 := nI_le (show H + r ≤ 1000 from q) (by decide)
    have h' : RelN N O P u (sS v 0 0) := h
    obtain ⟨x, u', v', O', w1, w2, w3, w4⟩ := pass_loop (N := N) (P := P) g2 100 0 O H u (sS v 0 0) 0 h' rfl eH (Nat.zero_le _) (by omega) (by omega)
    refine ⟨0, x, u', x, v', ?_, Or.inl rfl, ?_, w4, fun _ => rfl, N, O', P, w3⟩
    · unfold pX6_pass; rw [isWithin_eq, if_neg (by rw [z]; decide), eH, nI_add, if_pos hle]; exact w1
    · unfold pX7_pass; rw [if_neg (by rw [z]; decide), e7, nI_add, if_pos hle]; exact w2
