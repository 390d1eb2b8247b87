/-! WHAT CRANES CAN DO -/
def RC (v : St) (c y : Nat) : Prop := v.1 15 c ≤ nI y ∧ nI y ≤ v.1 16 c
theorem c_reaches {u v : St} {N O P c y : Nat} (h : RelN N O P u v) (hc : c < 2) : pX1_reaches (nI c) (nI y) u = some (b2p (RC v c y), u) := by
  obtain ⟨q1, q2, -⟩ := h.2.2.2.2.2.2.2.2.2.2.2.1 c hc
  unfold pX1_reaches pX1_reaches_b28
  rw [rg_n (show c < rl 18 from hc), rg_n (show c < rl 19 from hc), q1, q2]
  by_cases c1 : v.1 15 c ≤ nI y
  · rw [if_neg (Int32.not_lt.mpr c1)]
    by_cases c2 : nI y ≤ v.1 16 c
    · rw [if_neg (Int32.not_lt.mpr c2), b2p_t ⟨c1, c2⟩]
    · rw [if_pos (Int32.not_le.mp c2), b2p_f (fun q => c2 q.2)]
  · rw [if_pos (Int32.not_le.mp c1), b2p_f (fun q => c1 q.1)]
theorem m_isWithin {v : St} {c y : Nat} (hc : c < 2) : pX7_isWithin (nI y) (nI c) v = some (b2p (RC v c y), v) := by
  have e : pX7_in (nI y) (v.1 15 c) (v.1 16 c) = b2p (RC v c y) := by
    show (if nI y < v.1 15 c then 0 else if v.1 16 c < nI y then (0 : Int32) else 1) = _
    by_cases c1 : v.1 15 c ≤ nI y
    · rw [if_neg (Int32.not_lt.mpr c1)]
      by_cases c2 : nI y ≤ v.1 16 c
      · rw [if_neg (Int32.not_lt.mpr c2), b2p_t ⟨c1, c2⟩]
      · rw [if_pos (Int32.not_le.mp c2), b2p_f (fun q => c2 q.2)]
    · rw [if_pos (Int32.not_le.mp c1), b2p_f (fun q => c1 q.1)]
  unfold pX7_isWithin
  simp only [ckS hc (show 2 < 2 ^ 31 by decide), ckS2 hc (show 2 < 2 ^ 31 by decide), if_false, nI_clamp (show c < 2 ^ 31 by omega), e]
  rw [if_pos (b2p_01 _)]
/-- a box on the ship that can be taken -/
def TK (v : St) (s : Nat) : Prop := (s % 2 = 1 ∨ v.1 0 (s + 1) = -1) ∧ (s % 4 < 2 → v.1 2 (s / 12) = 1)
theorem c_boxOver {u v : St} {N O P s : Nat} (h : RelN N O P u v) (hs : s < 72) : pX4_boxOver (sN s) u = some (if s % 2 = 1 then -1 else v.1 0 (s + 1), u) := by
  unfold pX4_boxOver
  rw [(sN_facts s hs).2.2.2.2.2.2.1]
  by_cases c : s % 2 = 1
  · rw [if_pos c, if_pos c, if_neg one0]
  · have hs1 : s + 1 < 72 := by omega
    rw [if_neg c, if_neg c, if_pos rfl, (sN_facts s hs).2.2.2.2.2.2.2.2.1 (by omega), rg_n (show s + 1 < rl 13 from hs1), (h.2.2.2.2.1.1 (s + 1) hs1).1]
theorem c_canTake {u v : St} {N O P b s c : Nat} (h : RelN N O P u v) (hb : b < N) (hs : s < 72) (hc : c < 2) (ew : v.1 10 b = 1) (ep : v.1 11 b = nI s) : pX6_canTake (nI b) (nI c) u = some (b2p (RC v c (s / 12) ∧ TK v s), u) := by
  obtain ⟨h1, h2, h3, h4, h5, hg, ho, g8, g9, g10, g11, g12, g13, g14, g15⟩ := id h
  have hN := h1.1
  have hb6 : b < 60 := by omega
  have hbay : s / 12 < 6 := by omega
  obtain ⟨-, -, -, -, -, k6, -⟩ := h2 b hb
  have e6 : u.1 6 b = sN s := by
    rcases h3 b hb with ⟨p1, -⟩ | ⟨-, s', s1, s2, s3⟩ | ⟨p1, -⟩
    · rw [p1] at ew; exact absurd ew (by decide)
    · rw [ep] at s3
      obtain rfl : s = s' := nI_inj (by omega) (by omega) s3
      exact s2
    · rw [p1] at ew; exact absurd ew (by decide)
  have at0 : ¬ v.1 0 s = -1 := by
    obtain ⟨s', s1, s2, s3⟩ := h5.2 b hb ew
    rw [ep] at s2
    obtain rfl : s = s' := nI_inj (by omega) (by omega) s2
    rw [s3]; exact nI_m1 (by omega)
  unfold pX6_canTake pX6_canTake_b78
  rw [rg_n (show b < rl 5 from hb6), rg_n (show b < rl 6 from hb6), k6, if_pos ew, e6, (sN_facts s hs).2.2.1, c_reaches h hc, bnd_some]
  by_cases cR : RC v c (s / 12)
  · rw [b2p_t cR, if_neg one0, c_boxOver h hs, bnd_some, c_isOpen hbay, bnd_some, (ho (s / 12) hbay).1, (sN_facts s hs).2.2.2.2.2.1]
    by_cases cO : (if s % 2 = 1 then (-1 : Int32) else v.1 0 (s + 1)) = -1
    · rw [if_pos cO]
      have o1 : s % 2 = 1 ∨ v.1 0 (s + 1) = -1 := by
        by_cases c9 : s % 2 = 1
        · exact Or.inl c9
        · rw [if_neg c9] at cO; exact Or.inr cO
      have eH : ((if s % 4 < 2 then (1 : Int32) else 0) = (if v.1 2 (s / 12) = 1 then 1 else 0)) ↔ TK v s := by
        by_cases c4 : s % 4 < 2
        · rw [if_pos c4]
          by_cases c5 : v.1 2 (s / 12) = 1
          · rw [if_pos c5]; exact ⟨fun _ => ⟨o1, fun _ => c5⟩, fun _ => rfl⟩
          · rw [if_neg c5]; exact ⟨fun q => absurd q one0, fun q => absurd (q.2 c4) c5⟩
        · rw [if_neg c4]
          have z : v.1 2 (s / 12) = 0 := (g15 s hs (by omega)).resolve_left at0
          rw [z, if_neg (by decide)]
          exact ⟨fun _ => ⟨o1, fun q => absurd q c4⟩, fun _ => rfl⟩
      by_cases cT : TK v s
      · rw [if_pos (eH.mpr cT), b2p_t ⟨cR, cT⟩]
      · rw [if_neg (fun q => cT (eH.mp q)), b2p_f (fun q => cT q.2)]
    · rw [if_neg cO, b2p_f]
      rintro ⟨-, q, -⟩
      rcases q with q | q
      · rw [if_pos q] at cO; exact cO rfl
      · by_cases c9 : s % 2 = 1
        · rw [if_pos c9] at cO; exact cO rfl
        · rw [if_neg c9] at cO; exact cO q
  · rw [b2p_f cR, if_pos rfl, b2p_f (fun q => cR q.1)]
theorem m_canTake {u v : St} {N O P b s : Nat} (h : RelN N O P u v) (hb : b < N) (hs : s < 72) (ep : v.1 11 b = nI s) : pX7_canTake (nI b) v = some (b2p (TK v s), v) := by
  obtain ⟨h1, h2, h3, h4, h5, hg, ho, -⟩ := id h
  have hN := h1.1
  have hb6 : b < 60 := by omega
  have hbay : s / 12 < 6 := by omega
  have m31 : ∀ A : Prop, pX7_canTake_b31 (nI s) (b2p A) v = some (b2p (A ∧ (s % 4 < 2 → v.1 2 (s / 12) = 1)), v) := by
    intro A
    unfold pX7_canTake_b31 pX7_canTake_b59 pX7_canTake_b55
    rw [r4 hs, p12 hs, ck hbay (by decide), nI_clamp (by omega)]
    by_cases qA : A
    · rw [b2p_t qA, if_neg one0]
      by_cases c4 : s % 4 < 2
      · rw [if_neg (show ¬ 1 < nI (s % 4) from nI_nlt (show s % 4 ≤ 1 by omega) (by decide))]
        by_cases c5 : v.1 2 (s / 12) = 0
        · rw [if_pos c5, b2p_f (fun q => by have := q.2 c4; rw [c5] at this; exact absurd this (by decide))]
        · rw [if_neg c5, b2p_t ⟨qA, fun _ => (ho (s / 12) hbay).2.resolve_left c5⟩]
      · rw [if_pos (show 1 < nI (s % 4) from nI_lt (show 1 < s % 4 by omega) (by omega)), b2p_t ⟨qA, fun q => absurd q c4⟩]
    · rw [b2p_f qA, if_pos rfl, b2p_f (fun q => qA q.1)]
  unfold pX7_canTake pX7_canTake_b26
  rw [ck hb6 (by decide), nI_clamp (show b < 2 ^ 31 by omega), ep, r2 hs]
  by_cases c : s % 2 = 1
  · rw [if_pos (show nI (s % 2) = 1 by rw [c]; rfl)]
    have := m31 True
    rw [b2p_t trivial] at this
    rw [this, b2p_c (show (True ∧ (s % 4 < 2 → v.1 2 (s / 12) = 1)) ↔ TK v s from ⟨fun q => ⟨Or.inl c, q.2⟩, fun q => ⟨trivial, q.2⟩⟩)]
  · have hs1 : s + 1 < 72 := by omega
    rw [if_neg (show ¬ nI (s % 2) = 1 by rw [show s % 2 = 0 by omega]; decide), nI_1, ck hs1 (by decide), nI_clamp (by omega)]
    by_cases c2 : v.1 0 (s + 1) = -1
    · rw [if_pos c2]
      have := m31 True
      rw [b2p_t trivial] at this
      rw [this, b2p_c (show (True ∧ (s % 4 < 2 → v.1 2 (s / 12) = 1)) ↔ TK v s from ⟨fun q => ⟨Or.inr c2, q.2⟩, fun q => ⟨trivial, q.2⟩⟩)]
    · rw [if_neg c2]
      have := m31 False
      rw [b2p_f (fun q => q)] at this
      rw [this, b2p_c (show (False ∧ (s % 4 < 2 → v.1 2 (s / 12) = 1)) ↔ TK v s from ⟨fun q => q.1.elim, fun q => (q.1.elim c c2).elim⟩)]
/-- a box of the yard that can be loaded -/
def LO (P : Nat) (v : St) (b : Nat) : Prop := v.1 10 b = 0 ∧ (∃ t k, t < 10 ∧ k < 4 ∧ v.1 11 b = nI t ∧ v.1 12 t = nI (k + 1) ∧ v.1 13 (4 * t + k) = nI b) ∧ v.1 9 b = 7 ∧ ∃ p, P < p ∧ p < 10 ∧ v.1 7 b = nI p ∧ v.1 14 p = 0
def TO (v : St) (b : Nat) : Prop := v.1 10 b = 0 ∧ ∃ t k, t < 10 ∧ k < 4 ∧ v.1 11 b = nI t ∧ v.1 12 t = nI (k + 1) ∧ v.1 13 (4 * t + k) = nI b
def AH (P : Nat) (v : St) (b : Nat) : Prop := ∃ p, P < p ∧ p < 10 ∧ v.1 7 b = nI p ∧ v.1 14 p = 0
theorem LO_iff {P : Nat} {v : St} {b : Nat} : LO P v b ↔ TO v b ∧ v.1 9 b = 7 ∧ AH P v b := ⟨fun q => ⟨⟨q.1, q.2.1⟩, q.2.2⟩, fun q => ⟨q.1.1, q.1.2, q.2⟩⟩
theorem yard_of {u v : St} {N O P b : Nat} (h : RelN N O P u v) (hb : b < N) (ew : v.1 10 b = 0) : ∃ t k, t < 10 ∧ k < 4 ∧ u.1 6 b = nI t ∧ v.1 11 b = nI t ∧ u.1 7 t = nI (k + 1) ∧ v.1 12 t = nI (k + 1) ∧ u.1 8 (4 * t + k) = v.1 13 (4 * t + k) ∧ ∃ c, c < N ∧ v.1 13 (4 * t + k) = nI c := by
  obtain ⟨h1, h2, h3, h4, -⟩ := id h
  rcases h3 b hb with ⟨-, t, ht, e1, e2⟩ | ⟨p1, -⟩ | ⟨p1, -⟩
  · obtain ⟨k, hk, y1, y2, A, B, C⟩ := h4 t ht
    obtain ⟨j, hj, -⟩ := C b hb ew e2
    obtain ⟨q1, c, q2, q3, -⟩ := A (k - 1) (by omega)
    refine ⟨t, k - 1, ht, by omega, e1, e2, ?_, ?_, q1, c, q2, q3⟩
    · rw [y1]; congr 1; omega
    · rw [y2]; congr 1; omega
  · rw [p1] at ew; exact absurd ew (by decide)
  · rw [p1] at ew; exact absurd ew (by decide)
theorem ahead_both {u v : St} {N O P b : Nat} (h : RelN N O P u v) (hb : b < N) : pX6_isAhead (v.1 7 b) u = some (b2p (AH P v b), u) ∧ pX7_isAhead (v.1 7 b) v = some (b2p (AH P v b), v) := by
  obtain ⟨h1, h2, h3, h4, h5, hg, ho, g8, g9, g10, g11, -⟩ := id h
  obtain ⟨-, -, -, -, -, -, -, -, ⟨p, hp, ep⟩, -⟩ := h2 b hb
  have hp' : p < 10 := by omega
  have eA : AH P v b ↔ P < p ∧ v.1 14 p = 0 := by
    refine ⟨fun ⟨p', q1, q2, q3, q4⟩ => ?_, fun q => ⟨p, q.1, hp', ep, q.2⟩⟩
    obtain rfl : p = p' := nI_inj (by omega) (by omega) (ep.symm.trans q3)
    exact ⟨q1, q4⟩
  rw [ep, c_isAhead hp' h1.2.2.1 h1.2.2.2.2.2.2.2.1, m_isAhead hp' h1.2.2.1 h1.2.2.2.2.2.2.2.2.1, (g11 p hp').1]
  by_cases q : P < p ∧ v.1 14 p = 0
  · rw [if_pos q, b2p_t (eA.mpr q)]; exact ⟨rfl, rfl⟩
  · rw [if_neg q, b2p_f (fun z => q (eA.mp z))]; exact ⟨rfl, rfl⟩
theorem c_canLoad {u v : St} {N O P b : Nat} (h : RelN N O P u v) (hb : b < N) : pX6_canLoad (nI b) u = some (b2p (LO P v b), u) := by
  obtain ⟨h1, h2, h3, h4, -⟩ := id h
  have hN := h1.1
  have hb6 : b < 60 := by omega
  obtain ⟨-, -, k3, -, k5, k6, -⟩ := h2 b hb
  unfold pX6_canLoad pX6_canLoad_b69
  rw [rg_n (show b < rl 5 from hb6), k6]
  by_cases c0 : v.1 10 b = 0
  · obtain ⟨t, k, ht, hk, e1, e2, y1, y2, y3, c, hc, y4⟩ := yard_of h hb c0
    have top : pX5_topOf (nI t) u = some (nI c, u) := by
      unfold pX5_topOf
      rw [rg_n (show t < rl 7 from ht), y1, nI_pred, if_pos (nI_pos' (by omega)), st_ix, rg_n (show 4 * t + k < rl 8 from (by show 4 * t + k < 40; omega)), y3, y4]
    have eT : TO v b ↔ c = b := by
      refine ⟨fun ⟨_, t', k', t1, t2, t3, t4, t5⟩ => ?_, fun q => ⟨c0, t, k, ht, hk, e2, y2, by rw [y4, q]⟩⟩
      obtain rfl : t = t' := nI_inj (by omega) (by omega) (e2.symm.trans t3)
      have : k + 1 = k' + 1 := nI_inj (by omega) (by omega) (y2.symm.trans t4)
      obtain rfl : k = k' := by omega
      exact nI_inj (by omega) (by omega) (y4.symm.trans t5)
    rw [if_pos c0, rg_n (show b < rl 6 from hb6), e1, top, bnd_some]
    by_cases ce : nI c = nI b
    · rw [if_pos ce, c_isHeld hb6, bnd_some, k5]
      have hTO : TO v b := eT.mpr (nI_inj (by omega) (by omega) ce)
      by_cases c7 : v.1 9 b = 7
      · rw [if_pos c7, if_pos rfl, rg_n (show b < rl 2 from hb6), k3, (ahead_both h hb).1, bnd_some]
        by_cases cA : AH P v b
        · rw [b2p_t cA, if_neg one0, b2p_t (LO_iff.mpr ⟨hTO, c7, cA⟩)]
        · rw [b2p_f cA, if_pos rfl, b2p_f (fun q => cA (LO_iff.mp q).2.2)]
      · rw [if_neg c7, if_neg one0, b2p_f (fun q => c7 (LO_iff.mp q).2.1)]
    · rw [if_neg ce, b2p_f (fun q => ce (congrArg nI (eT.mp (LO_iff.mp q).1)))]
  · rw [if_neg c0, b2p_f (fun q => c0 q.1)]
theorem m_isOnTop {u v : St} {N O P b : Nat} (h : RelN N O P u v) (hb : b < N) : pX7_isOnTop (nI b) v = some (b2p (TO v b), v) := by
  obtain ⟨h1, h2, h3, h4, -⟩ := id h
  have hN := h1.1
  have hb6 : b < 60 := by omega
  have cb : (nI b).toNatClampNeg = b := nI_clamp (by omega)
  unfold pX7_isOnTop pX7_isOnTop_b44
  simp only [ckS hb6 (show 60 < 2 ^ 31 by decide), ckS2 hb6 (show 60 < 2 ^ 31 by decide), if_false, cb]
  by_cases c0 : v.1 10 b = 0
  · obtain ⟨t, k, ht, hk, e1, e2, y1, y2, y3, c, hc, y4⟩ := yard_of h hb c0
    have ct : (nI t).toNatClampNeg = t := nI_clamp (by omega)
    have hix : 4 * t + k < 40 := by omega
    have ei : (4 * nI t) + nI (k + 1) - 1 = nI (4 * t + k) := by
      rw [st_ix2, nI_sub1 (by omega)]; congr 1
    rw [if_pos c0, e2]
    simp only [ckS ht (show 10 < 2 ^ 31 by decide), ckS2 ht (show 10 < 2 ^ 31 by decide), if_false, ct, y2, ei, ckS hix (show 40 < 2 ^ 31 by decide), ckS2 hix (show 40 < 2 ^ 31 by decide), nI_clamp (show 4 * t + k < 2 ^ 31 by omega)]
    by_cases ce : v.1 13 (4 * t + k) = nI b
    · rw [if_pos ce, b2p_t ⟨c0, t, k, ht, hk, e2, y2, ce⟩]
    · rw [if_neg ce, b2p_f]
      rintro ⟨-, t', k', t1, t2, t3, t4, t5⟩
      obtain rfl : t = t' := nI_inj (by omega) (by omega) (e2.symm.trans t3)
      have : k + 1 = k' + 1 := nI_inj (by omega) (by omega) (y2.symm.trans t4)
      obtain rfl : k = k' := by omega
      exact ce t5
  · rw [if_neg c0, b2p_f (fun q => c0 q.1)]
/-- what lies on top of a hatch -/
noncomputable def eS (v : St) (s : Nat) : Nat := @ite Nat (v.1 0 s = -1) (Classical.propDecidable _) 0 1
theorem eS_0 {v : St} {s : Nat} (h : v.1 0 s = -1) : eS v s = 0 := by unfold eS; exact if_pos h
theorem eS_1 {v : St} {s : Nat} (h : ¬ v.1 0 s = -1) : eS v s = 1 := by unfold eS; exact if_neg h
noncomputable def onTop (v : St) (y : Nat) : Nat := eS v (12 * y + 2) + eS v (12 * y + 3) + eS v (12 * y + 6) + eS v (12 * y + 7) + eS v (12 * y + 10) + eS v (12 * y + 11)
theorem slotnum : ∀ y, y < 6 → ∀ r, r < 3 → ∀ t, t < 4 → ((100 * nI y) + (10 * nI r)) + nI t = sN (12 * y + 4 * r + t) := by decide +kernel
theorem c_onTop {u v : St} {N O P y : Nat} (h : RelN N O P u v) (hy : y < 6) : pX4_boxesOnTop (nI y) u = some (nI (onTop v y), u) := by
  have h5 := h.2.2.2.2.1
  have row : ∀ (K4 : Int32 → Int32 → Int32 → St → Option (Int32 × St)) (r x : Nat), r < 3 → pX4_boxesOnTop_b12 K4 100 (nI y) (nI x) (nI r) 2 u = K4 (nI y) (nI (x + eS v (12 * y + 4 * r + 2) + eS v (12 * y + 4 * r + 3))) (nI (r + 1)) u := by
    intro K4 r x hr
    have one : ∀ (n x t : Nat), t < 4 → pX4_boxesOnTop_b12 K4 (n + 1) (nI y) (nI x) (nI r) (nI t) u = pX4_boxesOnTop_b12 K4 n (nI y) (nI (x + eS v (12 * y + 4 * r + t))) (nI r) (nI (t + 1)) u := by
      intro n x t ht
      have hs : 12 * y + 4 * r + t < 72 := by omega
      rw [pX4_boxesOnTop_b12_s, if_neg (show ¬ 4 ≤ nI t from nI_ge (show t < 4 from ht) (by decide)), slotnum y hy r hr t ht, c_boxIn hs, bnd_some, (h5.1 _ hs).1]
      unfold pX4_boxesOnTop_b41
      by_cases c : v.1 0 (12 * y + 4 * r + t) = -1
      · rw [if_pos c, nI_1, eS_0 c]; rfl
      · rw [if_neg c, nI_1, eS_1 c, nI_1]
    have e2 := one 99 x 2 (by decide)
    have e3 := one 98 (x + eS v (12 * y + 4 * r + 2)) 3 (by decide)
    refine e2.trans (e3.trans ?_)
    rw [pX4_boxesOnTop_b12_s, if_pos (show 4 ≤ nI 4 by decide), nI_1]
  unfold pX4_boxesOnTop
  rw [show (0 : Int32) = nI 0 from rfl]
  rw [show pX4_boxesOnTop_b4 100 (nI y) (nI 0) (nI 0) u = pX4_boxesOnTop_b12 (pX4_boxesOnTop_b4 99) 100 (nI y) (nI 0) (nI 0) 2 u from by rw [pX4_boxesOnTop_b4_s, if_neg (by decide)], row _ 0 0 (by decide)]
  rw [show ∀ z, pX4_boxesOnTop_b4 99 (nI y) z (nI (0 + 1)) u = pX4_boxesOnTop_b12 (pX4_boxesOnTop_b4 98) 100 (nI y) z (nI (0 + 1)) 2 u from fun z => by rw [pX4_boxesOnTop_b4_s, if_neg (by decide)], row _ (0 + 1) _ (by decide)]
  rw [show ∀ z, pX4_boxesOnTop_b4 98 (nI y) z (nI (0 + 1 + 1)) u = pX4_boxesOnTop_b12 (pX4_boxesOnTop_b4 97) 100 (nI y) z (nI (0 + 1 + 1)) 2 u from fun z => by rw [pX4_boxesOnTop_b4_s, if_neg (by decide)], row _ (0 + 1 + 1) _ (by decide)]
  rw [pX4_boxesOnTop_b4_s, if_pos (by decide)]
  unfold onTop
  rw [show 12 * y + 4 * 0 + 2 = 12 * y + 2 by omega, show 12 * y + 4 * 0 + 3 = 12 * y + 3 by omega, show 12 * y + 4 * (0 + 1) + 2 = 12 * y + 6 by omega, show 12 * y + 4 * (0 + 1) + 3 = 12 * y + 7 by omega, show 12 * y + 4 * (0 + 1 + 1) + 2 = 12 * y + 10 by omega, show 12 * y + 4 * (0 + 1 + 1) + 3 = 12 * y + 11 by omega]
  congr 3; omega
def anyTop (v : St) (y x : Nat) : Prop := ∃ k, k < x ∧ 2 ≤ k % 4 ∧ ¬ v.1 0 (12 * y + k) = -1
theorem m_hasOnTop {v : St} {y : Nat} (hy : y < 6) : pX7_hasOnTop (nI y) v = some (b2p (anyTop v y 12), v) := by
  have loop : ∀ n x, x ≤ 12 → 12 < x + n → pX7_hasOnTop_b4 n (nI y) (b2p (anyTop v y x)) (nI x) v = some (b2p (anyTop v y 12), v) := by
    intro n
    induction n with
    | zero => intro x q1 q2; exact absurd q2 (by omega)
    | succ n ih =>
      intro x q1 q2
      rw [pX7_hasOnTop_b4_s]
      by_cases e : 12 ≤ x
      · obtain rfl : x = 12 := by omega
        rw [if_pos (show (12 : Int32) ≤ nI 12 by decide), if_pos (b2p_01 _)]
      · have hx : x < 12 := by omega
        have hix : 12 * y + x < 72 := by omega
        rw [if_neg (show ¬ 12 ≤ nI x from nI_ge (show x < 12 from hx) (by decide)), r4 (by omega)]
        have b40 : ¬ anyTop v y (x + 1) → pX7_hasOnTop_b40 (pX7_hasOnTop_b4 n) (nI y) (nI x) v = some (b2p (anyTop v y 12), v) := by
          intro q
          have := ih (x + 1) (by omega) (by omega)
          rw [b2p_f (p := anyTop v y (x + 1)) q] at this
          unfold pX7_hasOnTop_b40 pX7_hasOnTop_b41; rw [nI_1]; exact this
        have b36 : anyTop v y (x + 1) → pX7_hasOnTop_b36 (pX7_hasOnTop_b4 n) (nI y) (nI x) v = some (b2p (anyTop v y 12), v) := by
          intro q
          have := ih (x + 1) (by omega) (by omega)
          rw [b2p_t (p := anyTop v y (x + 1)) q] at this
          unfold pX7_hasOnTop_b36 pX7_hasOnTop_b41; rw [nI_1]; exact this
        by_cases cF : anyTop v y x
        · rw [b2p_t cF, if_neg one0]
          obtain ⟨k, k1, k2, k3⟩ := cF
          exact b36 ⟨k, by omega, k2, k3⟩
        · rw [b2p_f cF, if_pos rfl]
          have back : anyTop v y (x + 1) → 2 ≤ x % 4 ∧ ¬ v.1 0 (12 * y + x) = -1 := by
            rintro ⟨k, k1, k2, k3⟩
            by_cases ek : k = x
            · subst ek; exact ⟨k2, k3⟩
            · exact absurd ⟨k, by omega, k2, k3⟩ cF
          by_cases c4 : x % 4 < 2
          · rw [if_pos (show nI (x % 4) ≤ 1 from nI_le (show x % 4 ≤ 1 by omega) (by decide))]
            exact b40 (fun q => absurd (back q).1 (by omega))
          · rw [if_neg (show ¬ nI (x % 4) ≤ 1 from nI_ge (show 1 < x % 4 by omega) (by omega))]
            rw [show (12 : Int32) * nI y + nI x = nI (12 * y + x) by rw [show (12 : Int32) = nI 12 from rfl, pk_mul, nI_add], ck hix (by decide), nI_clamp (by omega)]
            by_cases c5 : v.1 0 (12 * y + x) = -1
            · rw [if_pos c5]; exact b40 (fun q => (back q).2 c5)
            · rw [if_neg c5]; exact b36 ⟨x, by omega, by omega, c5⟩
  unfold pX7_hasOnTop
  have := loop 100 0 (by omega) (by omega)
  rw [b2p_f (p := anyTop v y 0) (fun ⟨k, k1, _⟩ => absurd k1 (by omega))] at this
  exact this
theorem onTop_0 {v : St} {y : Nat} : onTop v y = 0 ↔ ¬ anyTop v y 12 := by
  have e : ∀ s, eS v s = 0 ↔ v.1 0 s = -1 := fun s => ⟨fun q => Classical.byContradiction fun z => by rw [eS_1 z] at q; omega, eS_0⟩
  refine ⟨fun q => ?_, fun q => ?_⟩
  · unfold onTop at q
    rintro ⟨k, k1, k2, k3⟩
    have c : k = 2 ∨ k = 3 ∨ k = 6 ∨ k = 7 ∨ k = 10 ∨ k = 11 := by omega
    have n0 := eS_1 k3
    rcases c with rfl | rfl | rfl | rfl | rfl | rfl <;> omega
  · have z : ∀ k, k < 12 → 2 ≤ k % 4 → eS v (12 * y + k) = 0 := fun k k1 k2 => eS_0 (Classical.byContradiction fun w => q ⟨k, k1, k2, w⟩)
    unfold onTop
    rw [z 2 (by omega) (by omega), z 3 (by omega) (by omega), z 6 (by omega) (by omega), z 7 (by omega) (by omega), z 10 (by omega) (by omega), z 11 (by omega) (by omega)]
