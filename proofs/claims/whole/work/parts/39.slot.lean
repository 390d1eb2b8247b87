/-! A SLOT AND A BOX -/
def MA (v : St) (b s : Nat) : Prop := v.1 0 s = -1 ∨ v.1 0 s = nI b
def MH (v : St) (s : Nat) : Prop := v.1 2 (s / 12) = (if s % 4 < 2 then 1 else 0)
def MC (v : St) (b s : Nat) : Prop := s % 2 = 1 → ¬ v.1 0 (s - 1) = -1 ∧ ¬ v.1 0 (s - 1) = nI b ∧ v.1 5 b ≤ v.1 5 (v.1 0 (s - 1)).toNatClampNeg + 5
def MP (v : St) (b s : Nat) : Prop := v.1 8 b = 1 → v.1 1 s = 1
def MD (N : Nat) (v : St) (b s : Nat) : Prop := ¬ v.1 8 b < 2 → ∀ o, 0 ≤ o → o < N → AP1 v b (s / 12) o
def MB (N : Nat) (v : St) (b s : Nat) : Prop := MA v b s ∧ MH v s ∧ MC v b s ∧ MP v b s ∧ MD N v b s
theorem c_mayBeIn {u v : St} {N O P b s : Nat} (h : RelN N O P u v) (hb : b < N) (hs : s < 72) : pX6_mayBeIn (nI b) (sN s) u = some (b2p (MB N v b s), u) := by
  obtain ⟨h1, h2, h3, h4, h5, hg, ho, -⟩ := id h
  have hN := h1.1
  have hb6 : b < 60 := by omega
  obtain ⟨k1, k2, k3, k4, -⟩ := h2 b hb
  have hbay : s / 12 < 6 := by omega
  -- plug and danger
  have c99 : pX6_mayBeIn_b99 (nI b) (sN s) u = some (b2p (MP v b s ∧ MD N v b s), u) := by
    unfold pX6_mayBeIn_b99 pX6_mayBeIn_b145
    rw [rg_n (show b < rl 3 from hb6), k4]
    by_cases c1 : v.1 8 b = 1
    · rw [if_pos c1, c_hasPlug hs, bnd_some, (hg s hs).1]
      have hd : MD N v b s := fun q => absurd (show v.1 8 b < 2 by rw [c1]; decide) q
      by_cases c2 : v.1 1 s = 1
      · rw [if_pos c2, if_pos (Or.inr rfl), b2p_t ⟨fun _ => c2, hd⟩]
      · rw [if_neg c2, if_pos (Or.inl rfl), b2p_f (fun q => c2 (q.1 c1))]
    · rw [if_neg c1]
      have hp : MP v b s := fun q => absurd q c1
      by_cases c2 : v.1 8 b < 2
      · rw [if_pos c2, b2p_t ⟨hp, fun q => absurd c2 q⟩]
      · rw [if_neg c2]
        have ha : pX6_isApartIn (nI b) (pX6_bayOf (sN s)) u = some (b2p (∀ o, 0 ≤ o → o < N → AP1 v b (s / 12) o), u) := by
          unfold pX6_isApartIn
          rw [rg_n (show b < rl 3 from hb6), k4, (sN_facts s hs).2.2.1]
          exact c_apart h hb6 hbay 100 0 (Nat.zero_le _) (by omega)
        rw [ha, bnd_some]
        by_cases c3 : ∀ o, 0 ≤ o → o < N → AP1 v b (s / 12) o
        · rw [b2p_t c3, if_neg one0, b2p_t ⟨hp, fun _ => c3⟩]
        · rw [b2p_f c3, if_pos rfl, b2p_f (fun q => c3 (q.2 c2))]
  have c21 : pX6_mayBeIn_b21 (nI b) (sN s) u = some (b2p (MH v s ∧ MC v b s ∧ MP v b s ∧ MD N v b s), u) := by
    unfold pX6_mayBeIn_b21
    rw [(sN_facts s hs).2.2.1, c_isOpen hbay, bnd_some, (sN_facts s hs).2.2.2.2.2.1, (ho (s / 12) hbay).1]
    have eH : ((if s % 4 < 2 then (1 : Int32) else 0) = (if v.1 2 (s / 12) = 1 then 1 else 0)) ↔ MH v s := by
      unfold MH
      rcases (ho (s / 12) hbay).2 with q | q <;> rw [q] <;> by_cases c : s % 4 < 2 <;> simp [c]
    by_cases cH : MH v s
    · rw [if_pos (eH.mpr cH), (sN_facts s hs).2.2.2.2.2.2.1]
      by_cases cr : s % 2 = 1
      · rw [if_pos cr, if_neg one0]
        have hs1 : s - 1 < 72 := by omega
        have eb : pX4_boxIn (sN s - 1) u = some (v.1 0 (s - 1), u) := by
          unfold pX4_boxIn; rw [(sN_facts s hs).2.2.2.2.2.2.2.2.2 cr, rg_n (show s - 1 < rl 13 from hs1), (h5.1 (s - 1) hs1).1]
        rw [eb, bnd_some]
        unfold pX6_mayBeIn_b72
        rcases (h5.1 (s - 1) hs1).2 with q | ⟨c, c1, c2, -, -⟩
        · rw [if_pos q, b2p_f (fun z => (z.2.1 cr).1 q)]
        · rw [c2, if_neg (nI_m1 (by omega))]
          by_cases e : nI c = nI b
          · rw [if_pos e, b2p_f (fun z => (z.2.1 cr).2.1 (c2.trans e))]
          · rw [if_neg e]
            unfold pX0_mayCarry
            rw [rg_n (show c < rl 0 from (by show c < 60; omega)), (h2 c c1).1, rg_n (show b < rl 0 from hb6), k1]
            have eC : MC v b s ↔ v.1 5 b ≤ v.1 5 c + 5 := by
              unfold MC; rw [c2, nI_clamp (show c < 2 ^ 31 by omega)]
              exact ⟨fun z => (z cr).2.2, fun z _ => ⟨nI_m1 (by omega), e, z⟩⟩
            by_cases q : v.1 5 b ≤ v.1 5 c + 5
            · rw [if_neg (Int32.not_lt.mpr q), bnd_some, if_neg one0, c99]
              rw [b2p_c (show (MP v b s ∧ MD N v b s) ↔ (MH v s ∧ MC v b s ∧ MP v b s ∧ MD N v b s) from ⟨fun z => ⟨cH, eC.mpr q, z⟩, fun z => z.2.2⟩)]
            · rw [if_pos (Int32.not_le.mp q), bnd_some, if_pos rfl, b2p_f (fun z => q (eC.mp z.2.1))]
      · rw [if_neg cr, if_pos rfl, c99]
        rw [b2p_c (show (MP v b s ∧ MD N v b s) ↔ (MH v s ∧ MC v b s ∧ MP v b s ∧ MD N v b s) from ⟨fun z => ⟨cH, fun q => absurd q cr, z⟩, fun z => z.2.2⟩)]
    · rw [if_neg (fun q => cH (eH.mp q)), b2p_f (fun z => cH z.1)]
  unfold pX6_mayBeIn
  rw [c_boxIn hs, bnd_some, (h5.1 s hs).1]
  by_cases c1 : v.1 0 s = -1
  · rw [if_pos c1, c21]
    rw [b2p_c (show _ ↔ MB N v b s from ⟨fun z => ⟨Or.inl c1, z⟩, fun z => z.2⟩)]
  · rw [if_neg c1]
    by_cases c2 : v.1 0 s = nI b
    · rw [if_pos c2, c21]
      rw [b2p_c (show _ ↔ MB N v b s from ⟨fun z => ⟨Or.inr c2, z⟩, fun z => z.2⟩)]
    · rw [if_neg c2, b2p_f (fun z => z.1.elim c1 c2)]
theorem p12 {s : Nat} (hs : s < 72) : nI s / 12 = nI (s / 12) := by
  rw [show (12 : Int32) = nI 12 from rfl, pk_div (by omega) (by decide) (by decide)]
theorem r4 {s : Nat} (hs : s < 72) : nI s - nI s / 4 * 4 = nI (s % 4) := by
  rw [show (4 : Int32) = nI 4 from rfl, pk_rem (by omega) (by decide) (by decide)]
theorem r2 {s : Nat} (hs : s < 72) : nI s - nI s / 2 * 2 = nI (s % 2) := by
  rw [show (2 : Int32) = nI 2 from rfl, pk_rem (by omega) (by decide) (by decide)]
theorem one_nI {k : Nat} (hk : k < 2 ^ 31) : (nI k = 1) ↔ k = 1 := ⟨fun q => nI_inj hk (by decide) q, fun q => by rw [q]; rfl⟩
theorem zero_nI {k : Nat} (hk : k < 2 ^ 31) : (nI k = 0) ↔ k = 0 := ⟨fun q => nI_inj hk (by decide) q, fun q => by rw [q]; rfl⟩
theorem m_slotMay {u v : St} {N O P b s : Nat} (h : RelN N O P u v) (hb : b < N) (hs : s < 72) : pX7_slotMay (nI b) (nI s) v = some (b2p (MB N v b s), v) := by
  obtain ⟨h1, h2, h3, h4, h5, hg, ho, -⟩ := id h
  have hN := h1.1
  have hb6 : b < 60 := by omega
  have hbay : s / 12 < 6 := by omega
  have cb : (nI b).toNatClampNeg = b := nI_clamp (by omega)
  have cs : (nI s).toNatClampNeg = s := nI_clamp (by omega)
  have cy : (nI (s / 12)).toNatClampNeg = s / 12 := nI_clamp (by omega)
  have K60 : 60 < 2 ^ 31 := by decide
  have K72 : 72 < 2 ^ 31 := by decide
  have K6 : 6 < 2 ^ 31 := by decide
  -- the end: what was found of place, plug, weight and hatch, and danger
  have m140 : ∀ A C D B : Prop, pX7_slotMay_b140 (nI b) (nI s) (b2p A) (b2p C) (b2p D) (b2p B) v = some (b2p (A ∧ B ∧ C ∧ D ∧ MD N v b s), v) := by
    intro A C D B
    unfold pX7_slotMay_b140 pX7_slotMay_b186 pX7_slotMay_b182
    by_cases qA : A
    · rw [b2p_t qA, if_neg one0]
      by_cases qC : C
      · rw [b2p_t qC, if_neg one0]
        by_cases qD : D
        · rw [b2p_t qD, if_neg one0]
          by_cases qB : B
          · rw [b2p_t qB, if_neg one0]
            unfold pX7_isDangerous
            simp only [ckS hb6 K60, ckS2 hb6 K60, if_false, cb]
            by_cases c2 : v.1 8 b < 2
            · rw [if_pos c2, bnd_some, if_pos rfl, b2p_t ⟨qA, qB, qC, qD, fun q => absurd c2 q⟩]
            · rw [if_neg c2, bnd_some, if_neg one0, p12 hs]
              have ha : pX7_isApart (nI b) (nI (s / 12)) v = some (b2p (∀ o, 0 ≤ o → o < N → AP1 v b (s / 12) o), v) := by
                unfold pX7_isApart
                have := m_apart (bay := s / 12) h hb6 100 0 True (Nat.zero_le _) (by omega)
                rw [b2p_t trivial] at this
                rw [show (0 : Int32) = nI 0 from rfl, this]
                rw [b2p_c (show (True ∧ ∀ o, 0 ≤ o → o < N → AP1 v b (s / 12) o) ↔ (∀ o, 0 ≤ o → o < N → AP1 v b (s / 12) o) from ⟨fun q => q.2, fun q => ⟨trivial, q⟩⟩)]
              rw [ha, bnd_some]
              by_cases c3 : ∀ o, 0 ≤ o → o < N → AP1 v b (s / 12) o
              · rw [b2p_t c3, if_neg one0, b2p_t ⟨qA, qB, qC, qD, fun _ => c3⟩]
              · rw [b2p_f c3, if_pos rfl, b2p_f (fun q => c3 (q.2.2.2.2 c2))]
          · rw [b2p_f qB, if_pos rfl, b2p_f (fun q => qB q.2.1)]
        · rw [b2p_f qD, if_pos rfl, b2p_f (fun q => qD q.2.2.2.1)]
      · rw [b2p_f qC, if_pos rfl, b2p_f (fun q => qC q.2.2.1)]
    · rw [b2p_f qA, if_pos rfl, b2p_f (fun q => qA q.1)]
  have m111 : ∀ A C D : Prop, pX7_slotMay_b111 (nI b) (nI s) (nI (s % 4)) (b2p A) (b2p C) (b2p D) v = some (b2p (A ∧ MH v s ∧ C ∧ D ∧ MD N v b s), v) := by
    intro A C D
    unfold pX7_slotMay_b111 pX7_slotMay_b132
    rw [p12 hs, ck hbay K6, cy]
    by_cases c4 : s % 4 < 2
    · rw [if_neg (show ¬ 2 ≤ nI (s % 4) from nI_ge (show s % 4 < 2 from c4) (by decide))]
      have eH : MH v s ↔ v.1 2 (s / 12) = 1 := by unfold MH; rw [if_pos c4]
      by_cases q : v.1 2 (s / 12) = 1
      · have := m140 A C D (MH v s)
        rw [b2p_t (eH.mpr q)] at this
        rw [if_pos q, this]
      · have := m140 A C D (MH v s)
        rw [b2p_f (fun z => q (eH.mp z))] at this
        rw [if_neg q, this]
    · rw [if_pos (show 2 ≤ nI (s % 4) from nI_le (show 2 ≤ s % 4 by omega) (by omega))]
      have eH : MH v s ↔ v.1 2 (s / 12) = 0 := by unfold MH; rw [if_neg c4]
      by_cases q : v.1 2 (s / 12) = 0
      · have := m140 A C D (MH v s)
        rw [b2p_t (eH.mpr q)] at this
        rw [if_pos q, this]
      · have := m140 A C D (MH v s)
        rw [b2p_f (fun z => q (eH.mp z))] at this
        rw [if_neg q, this]
  have m85 : ∀ A C : Prop, pX7_slotMay_b85 (nI b) (nI s) (nI (s % 4)) (b2p A) (b2p C) v = some (b2p (A ∧ MH v s ∧ C ∧ MP v b s ∧ MD N v b s), v) := by
    intro A C
    unfold pX7_slotMay_b85 pX7_slotMay_b106
    simp only [ckS hb6 K60, ckS2 hb6 K60, ckS hs K72, ckS2 hs K72, if_false, cb, cs]
    by_cases c1 : v.1 8 b = 1
    · rw [if_pos c1]
      have eP : MP v b s ↔ v.1 1 s = 1 := ⟨fun q => q c1, fun q _ => q⟩
      by_cases q : v.1 1 s = 0
      · have := m111 A C (MP v b s)
        rw [b2p_f (p := MP v b s) (fun z => by rw [eP.mp z] at q; exact one0 q)] at this
        rw [if_pos q, this]
      · have := m111 A C (MP v b s)
        rw [b2p_t (p := MP v b s) (eP.mpr ((hg s hs).2.resolve_left q))] at this
        rw [if_neg q, this]
    · have := m111 A C (MP v b s)
      rw [b2p_t (p := MP v b s) (fun q => absurd q c1)] at this
      rw [if_neg c1, this]
  have m23 : ∀ x4 : Int32, (s % 2 = 1 → x4 = v.1 0 (s - 1)) → pX7_slotMay_b23 (nI b) (nI s) (nI (s % 4)) x4 v = some (b2p (MB N v b s), v) := by
    intro x4 hx4
    have m50 : ∀ A : Prop, pX7_slotMay_b50 (nI b) (nI s) (nI (s % 4)) x4 (b2p A) v = some (b2p (A ∧ MH v s ∧ MC v b s ∧ MP v b s ∧ MD N v b s), v) := by
      intro A
      have m80 : MC v b s → pX7_slotMay_b80 (nI b) (nI s) (nI (s % 4)) (b2p A) v = some (b2p (A ∧ MH v s ∧ MC v b s ∧ MP v b s ∧ MD N v b s), v) := by
        intro q
        unfold pX7_slotMay_b80
        have := m85 A (MC v b s)
        rw [b2p_t (p := MC v b s) q] at this; exact this
      have m84 : ¬ MC v b s → pX7_slotMay_b84 (nI b) (nI s) (nI (s % 4)) (b2p A) v = some (b2p (A ∧ MH v s ∧ MC v b s ∧ MP v b s ∧ MD N v b s), v) := by
        intro q
        unfold pX7_slotMay_b84
        have := m85 A (MC v b s)
        rw [b2p_f (p := MC v b s) q] at this; exact this
      unfold pX7_slotMay_b50
      have e2 : nI (s % 4) - nI (s % 4) / 2 * 2 = nI (s % 2) := by
        rw [r2 (by omega)]; congr 1; omega
      rw [e2]
      by_cases cr : s % 2 = 1
      · rw [if_neg (by rw [cr]; decide), hx4 cr]
        have hs1 : s - 1 < 72 := by omega
        rcases (h5.1 (s - 1) hs1).2 with q | ⟨c, c1, c2, -, -⟩
        · rw [if_pos q]; exact m84 (fun z => (z cr).1 q)
        · rw [c2, if_neg (nI_m1 (by omega))]
          by_cases e : nI c = nI b
          · rw [if_pos e]; exact m84 (fun z => (z cr).2.1 (c2.trans e))
          · rw [if_neg e]
            have hc6 : c < 60 := by omega
            unfold pX7_fits
            simp only [ckS hb6 K60, ckS2 hb6 K60, ckS hc6 K60, ckS2 hc6 K60, if_false, cb, nI_clamp (show c < 2 ^ 31 by omega)]
            have eC : MC v b s ↔ v.1 5 b ≤ v.1 5 c + 5 := by
              unfold MC; rw [c2, nI_clamp (show c < 2 ^ 31 by omega)]
              exact ⟨fun z => (z cr).2.2, fun z _ => ⟨nI_m1 (by omega), e, z⟩⟩
            by_cases q : v.1 5 b ≤ v.1 5 c + 5
            · rw [if_neg (Int32.not_lt.mpr q), bnd_some, if_neg one0]; exact m80 (eC.mpr q)
            · rw [if_pos (Int32.not_le.mp q), bnd_some, if_pos rfl]; exact m84 (fun z => q (eC.mp z))
      · rw [if_pos (show nI (s % 2) = 0 by rw [show s % 2 = 0 by omega]; rfl)]
        exact m80 (fun q => absurd q cr)
    unfold pX7_slotMay_b23 pX7_slotMay_b45
    simp only [ckS hs K72, ckS2 hs K72, if_false, cs]
    by_cases c1 : v.1 0 s = -1
    · have := m50 (MA v b s)
      rw [b2p_t (p := MA v b s) (Or.inl c1)] at this
      rw [if_pos c1, this]; rfl
    · rw [if_neg c1]
      by_cases c2 : v.1 0 s = nI b
      · have := m50 (MA v b s)
        rw [b2p_t (p := MA v b s) (Or.inr c2)] at this
        rw [if_pos c2, this]; rfl
      · have := m50 (MA v b s)
        rw [b2p_f (p := MA v b s) (fun q => q.elim c1 c2)] at this
        rw [if_neg c2, this]; rfl
  unfold pX7_slotMay
  rw [r4 hs]
  have e2 : nI (s % 4) - nI (s % 4) / 2 * 2 = nI (s % 2) := by
    rw [r2 (by omega)]; congr 1; omega
  rw [e2]
  by_cases cr : s % 2 = 1
  · rw [if_pos (by rw [cr]; rfl), nI_sub1 (by omega), ck (show s - 1 < 72 by omega) K72, nI_clamp (by omega)]
    exact m23 _ (fun _ => rfl)
  · rw [if_neg (by rw [show s % 2 = 0 by omega]; decide)]
    exact m23 _ (fun q => absurd q cr)
theorem sx_may : Sx_may Rel := by
  rintro u v ⟨N, O, P, h⟩ a1 a2
  obtain ⟨h1, -⟩ := id h
  have m47 : ∀ x y : Int32, pX7_may_b20 x y v = some (0, sS v 0 1) := by
    intro x y; unfold pX7_may_b20 pX7_may_b21 pX7_may_b47; rw [e1]
  rcases box_cases h1.1 h1.2.2.2.1 h1.2.2.2.2.1 a1 with ⟨h6, h7⟩ | ⟨b, hb, rfl, h6, h7⟩
  · refine ⟨1, 0, u, 0, sS v 0 1, ?_, Or.inr rfl, ?_, rfl, fun h => absurd h (by decide), N, O, P, h⟩
    · unfold pX6_may; rw [h6]; rfl
    · unfold pX7_may; rw [h7, bnd_some, if_pos rfl, m47]
  rcases slot_cases a2 with ⟨y6, y7⟩ | ⟨s, hs, rfl, y6, y7⟩
  · refine ⟨1, 0, u, 0, sS v 0 1, ?_, Or.inr rfl, ?_, rfl, fun h => absurd h (by decide), N, O, P, h⟩
    · unfold pX6_may; rw [h6, bnd_some, if_neg one0, if_pos y6]
    · unfold pX7_may; rw [h7, bnd_some, if_neg one0, if_pos y7, m47]
  · have h' : RelN N O P u (sS v 0 0) := h
    refine ⟨0, b2p (MB N (sS v 0 0) b s), u, b2p (MB N (sS v 0 0) b s), sS v 0 0, ?_, Or.inl rfl, ?_, rfl, fun _ => rfl, N, O, P, h⟩
    · unfold pX6_may; rw [h6, bnd_some, if_neg one0, if_neg (by rw [y6]; decide), c_mayBeIn h' hb hs, bnd_some, if_pos (b2p_01 _)]
    · unfold pX7_may pX7_may_b21 pX7_may_b47
      rw [h7, bnd_some, if_neg one0, if_neg (by rw [y7]; decide), e0, (sN_facts s hs).2.1, m_slotMay h' hb hs, bnd_some]
      rcases Classical.em (MB N (sS v 0 0) b s) with q | q
      · rw [b2p_t q, if_neg one0]
      · rw [b2p_f q, if_pos rfl]
