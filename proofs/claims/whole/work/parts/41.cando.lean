/-! AN ORDER that a crane can do -/
/-- by all but reaches; the place: a slot, a stack, or none -/
def PO (N P : Nat) (v : St) (o : Nat) : Prop :=
  (v.1 18 o = 0 ∧ ∃ b s, b < N ∧ s < 72 ∧ v.1 19 o = nI b ∧ v.1 20 o = nI s ∧ LO P v b ∧ MB N v b s) ∨
  (v.1 18 o = 1 ∧ ∃ b t s0, b < N ∧ t < 10 ∧ s0 < 72 ∧ v.1 19 o = nI b ∧ v.1 20 o = nI t ∧ v.1 10 b = 1 ∧ v.1 11 b = nI s0 ∧ TK v s0 ∧ v.1 9 b = 7 ∧ SM (v.1 5 b) t v) ∨
  (v.1 18 o = 2 ∧ ∃ b s s0, b < N ∧ s < 72 ∧ s0 < 72 ∧ v.1 19 o = nI b ∧ v.1 20 o = nI s ∧ v.1 10 b = 1 ∧ v.1 11 b = nI s0 ∧ TK v s0 ∧ s ≠ s0 ∧ MB N v b s) ∨
  (v.1 18 o = 3 ∧ ∃ y, y < 6 ∧ v.1 19 o = nI y ∧ v.1 2 y = 0 ∧ ¬ anyTop v y 12 ∧ v.1 3 y ≤ v.2 7) ∨
  (v.1 18 o = 4 ∧ ∃ y, y < 6 ∧ v.1 19 o = nI y ∧ v.1 2 y = 1)
def RE (N : Nat) (v : St) (o c : Nat) : Prop :=
  (v.1 18 o = 0 ∧ ∃ s, s < 72 ∧ v.1 20 o = nI s ∧ RC v c (s / 12)) ∨
  (v.1 18 o = 1 ∧ ∃ b s0, b < N ∧ s0 < 72 ∧ v.1 19 o = nI b ∧ v.1 10 b = 1 ∧ v.1 11 b = nI s0 ∧ RC v c (s0 / 12)) ∨
  (v.1 18 o = 2 ∧ ∃ b s s0, b < N ∧ s < 72 ∧ s0 < 72 ∧ v.1 19 o = nI b ∧ v.1 20 o = nI s ∧ v.1 10 b = 1 ∧ v.1 11 b = nI s0 ∧ RC v c (s0 / 12) ∧ RC v c (s / 12)) ∨
  ((v.1 18 o = 3 ∨ v.1 18 o = 4) ∧ ∃ y, y < 6 ∧ v.1 19 o = nI y ∧ RC v c y)
theorem n01 : ¬ (0 : Int32) = 1 := by decide
theorem n02 : ¬ (0 : Int32) = 2 := by decide
theorem n03 : ¬ (0 : Int32) = 3 := by decide
theorem n04 : ¬ (0 : Int32) = 4 := by decide
theorem n12 : ¬ (1 : Int32) = 2 := by decide
theorem n13 : ¬ (1 : Int32) = 3 := by decide
theorem n14 : ¬ (1 : Int32) = 4 := by decide
theorem n20 : ¬ (2 : Int32) = 0 := by decide
theorem n21 : ¬ (2 : Int32) = 1 := by decide
theorem n23 : ¬ (2 : Int32) = 3 := by decide
theorem n24 : ¬ (2 : Int32) = 4 := by decide
theorem n30 : ¬ (3 : Int32) = 0 := by decide
theorem n31 : ¬ (3 : Int32) = 1 := by decide
theorem n32 : ¬ (3 : Int32) = 2 := by decide
theorem n34 : ¬ (3 : Int32) = 4 := by decide
theorem n40 : ¬ (4 : Int32) = 0 := by decide
theorem n41 : ¬ (4 : Int32) = 1 := by decide
theorem n42 : ¬ (4 : Int32) = 2 := by decide
theorem n43 : ¬ (4 : Int32) = 3 := by decide
theorem shipslot {u v : St} {N O P b : Nat} (h : RelN N O P u v) (hb : b < N) (ew : v.1 10 b = 1) : ∃ s, s < 72 ∧ u.1 6 b = sN s ∧ v.1 11 b = nI s ∧ v.1 0 s = nI b := by
  rcases h.2.2.1 b hb with ⟨p1, -⟩ | ⟨-, s, s1, s2, s3⟩ | ⟨p1, -⟩
  · rw [p1] at ew; exact absurd ew (by decide)
  · obtain ⟨s', q1, q2, q3⟩ := h.2.2.2.2.1.2 b hb ew
    obtain rfl : s = s' := nI_inj (by omega) (by omega) (s3.symm.trans q2)
    exact ⟨s, s1, s2, s3, q3⟩
  · rw [p1] at ew; exact absurd ew (by decide)
theorem can_all {u v : St} {N O P o c : Nat} (h : RelN N O P u v) (ho : o < O) (hc : c < 2) : pX6_canDo (nI o) (nI c) u = some (b2p (RE N v o c ∧ PO N P v o), u) ∧ pX7_reaches (nI o) (nI c) v = some (b2p (RE N v o c), v) ∧ pX7_isPossible (nI o) v = some (b2p (PO N P v o), v) := by
  obtain ⟨h1, h2, h3, h4, h5, hg, hop, hjm, g9, g10, g11, hcr, hq, g14, g15⟩ := id h
  have hN := h1.1
  have hO := h1.2.1
  have ho20 : o < 20 := by omega
  have co : (nI o).toNatClampNeg = o := nI_clamp (by omega)
  have K60 : 60 < 2 ^ 31 := by decide
  have K20 : 20 < 2 ^ 31 := by decide
  obtain ⟨q1, q2, q3⟩ := hq o ho
  have w6 : rg u 15 (nI o) = v.1 18 o := by rw [rg_n (show o < rl 15 from ho20), q1]
  have i6 : rg u 16 (nI o) = v.1 19 o := by rw [rg_n (show o < rl 16 from ho20), q2]
  have p6 : rg u 17 (nI o) = u.1 17 o := rg_n (show o < rl 17 from ho20)
  rcases q3 with ⟨hw, ⟨b, hb, eb⟩, s, hs, ep, eg⟩ | ⟨hw, ⟨b, hb, eb⟩, t, ht, ep, eg⟩ | ⟨hw, y, hy, ey⟩
  · have hb6 : b < 60 := by omega
    have hbay : s / 12 < 6 := by omega
    have cb : (nI b).toNatClampNeg = b := nI_clamp (by omega)
    have bs : ∀ b', nI b = nI b' → b' < N → b = b' := fun b' q _ => nI_inj (by omega) (by omega) q
    have ss : ∀ s', nI s = nI s' → s' < 72 → s = s' := fun s' q _ => nI_inj (by omega) (by omega) q
    obtain ⟨-, -, -, -, -, k6, -⟩ := h2 b hb
    rcases hw with hw | hw
    · -- LOAD
      have eR : RE N v o c ↔ RC v c (s / 12) := by
        refine ⟨fun q => ?_, fun q => Or.inl ⟨hw, s, hs, eg, q⟩⟩
        rcases q with ⟨-, s', z1, z2, z3⟩ | ⟨z, -⟩ | ⟨z, -⟩ | ⟨z, -⟩
        · obtain rfl := ss s' (eg.symm.trans z2) z1; exact z3
        · rw [hw] at z; exact absurd z n01
        · rw [hw] at z; exact absurd z n02
        · rw [hw] at z; rcases z with z | z
          · exact absurd z n03
          · exact absurd z n04
      have eP : PO N P v o ↔ LO P v b ∧ MB N v b s := by
        refine ⟨fun q => ?_, fun q => Or.inl ⟨hw, b, s, hb, hs, eb, eg, q⟩⟩
        rcases q with ⟨-, b', s', z1, z2, z3, z4, z5⟩ | ⟨z, -⟩ | ⟨z, -⟩ | ⟨z, -⟩ | ⟨z, -⟩
        · obtain rfl := bs b' (eb.symm.trans z3) z1
          obtain rfl := ss s' (eg.symm.trans z4) z2
          exact z5
        · rw [hw] at z; exact absurd z n01
        · rw [hw] at z; exact absurd z n02
        · rw [hw] at z; exact absurd z n03
        · rw [hw] at z; exact absurd z n04
      refine ⟨?_, ?_, ?_⟩
      · unfold pX6_canDo pX6_canDo_b110
        rw [w6, hw, if_pos rfl, p6, ep, (sN_facts s hs).2.2.1, c_reaches h hc, bnd_some, i6, eb]
        by_cases cR : RC v c (s / 12)
        · rw [b2p_t cR, if_neg one0, c_canLoad h hb, bnd_some]
          by_cases cL : LO P v b
          · rw [b2p_t cL, if_neg one0, c_mayBeIn h hb hs, bnd_some]
            by_cases cM : MB N v b s
            · rw [b2p_t cM, if_neg one0, b2p_t ⟨eR.mpr cR, eP.mpr ⟨cL, cM⟩⟩]
            · rw [b2p_f cM, if_pos rfl, b2p_f (fun q => cM (eP.mp q.2).2)]
          · rw [b2p_f cL, if_pos rfl, b2p_f (fun q => cL (eP.mp q.2).1)]
        · rw [b2p_f cR, if_pos rfl, b2p_f (fun q => cR (eR.mp q.1))]
      · unfold pX7_reaches pX7_reaches_b60 pX7_reaches_b65 pX7_reaches_b103 pX7_reaches_b99
        simp only [ckS ho20 K20, ckS2 ho20 K20, if_false, co]
        rw [hw, if_pos (show (0 : Int32) < 3 by decide), if_pos rfl, if_neg one0, if_neg n01, eg, p12 hs, m_isWithin hc, bnd_some]
        by_cases cR : RC v c (s / 12)
        · rw [b2p_t cR, if_neg one0, b2p_t (eR.mpr cR)]
        · rw [b2p_f cR, if_pos rfl, b2p_f (fun q => cR (eR.mp q))]
      · unfold pX7_isPossible pX7_isPossible_b91
        simp only [ckS ho20 K20, ckS2 ho20 K20, if_false, co]
        rw [hw, if_pos rfl, eb, m_isOnTop h hb, bnd_some]
        by_cases cT : TO v b
        · rw [b2p_t cT, if_neg one0, m_isHeld hb6, bnd_some]
          by_cases c7 : v.1 9 b = 7
          · rw [if_pos c7, if_pos rfl]
            simp only [ckS hb6 K60, ckS2 hb6 K60, if_false, cb]
            rw [(ahead_both h hb).2, bnd_some]
            by_cases cA : AH P v b
            · rw [b2p_t cA, if_neg one0, eg, m_slotMay h hb hs, bnd_some]
              by_cases cM : MB N v b s
              · rw [b2p_t cM, if_neg one0, b2p_t (eP.mpr ⟨LO_iff.mpr ⟨cT, c7, cA⟩, cM⟩)]
              · rw [b2p_f cM, if_pos rfl, b2p_f (fun q => cM (eP.mp q).2)]
            · rw [b2p_f cA, if_pos rfl, b2p_f (fun q => cA (LO_iff.mp (eP.mp q).1).2.2)]
          · rw [if_neg c7, if_neg one0, b2p_f (fun q => c7 (LO_iff.mp (eP.mp q).1).2.1)]
        · rw [b2p_f cT, if_pos rfl, b2p_f (fun q => cT (LO_iff.mp (eP.mp q).1).1)]
    · -- SHIFT
      have eR : RE N v o c ↔ ∃ s0, s0 < 72 ∧ v.1 10 b = 1 ∧ v.1 11 b = nI s0 ∧ RC v c (s0 / 12) ∧ RC v c (s / 12) := by
        refine ⟨fun q => ?_, fun ⟨s0, z1, z2, z3, z4, z5⟩ => Or.inr (Or.inr (Or.inl ⟨hw, b, s, s0, hb, hs, z1, eb, eg, z2, z3, z4, z5⟩))⟩
        rcases q with ⟨z, -⟩ | ⟨z, -⟩ | ⟨-, b', s', s0, z1, z2, z3, z4, z5, z6⟩ | ⟨z, -⟩
        · rw [hw] at z; exact absurd z n20
        · rw [hw] at z; exact absurd z n21
        · obtain rfl := bs b' (eb.symm.trans z4) z1
          obtain rfl := ss s' (eg.symm.trans z5) z2
          exact ⟨s0, z3, z6⟩
        · rw [hw] at z; rcases z with z | z
          · exact absurd z n23
          · exact absurd z n24
      have eP : PO N P v o ↔ ∃ s0, s0 < 72 ∧ v.1 10 b = 1 ∧ v.1 11 b = nI s0 ∧ TK v s0 ∧ s ≠ s0 ∧ MB N v b s := by
        refine ⟨fun q => ?_, fun ⟨s0, z1, z2⟩ => Or.inr (Or.inr (Or.inl ⟨hw, b, s, s0, hb, hs, z1, eb, eg, z2⟩))⟩
        rcases q with ⟨z, -⟩ | ⟨z, -⟩ | ⟨-, b', s', s0, z1, z2, z3, z4, z5, z6⟩ | ⟨z, -⟩ | ⟨z, -⟩
        · rw [hw] at z; exact absurd z n20
        · rw [hw] at z; exact absurd z n21
        · obtain rfl := bs b' (eb.symm.trans z4) z1
          obtain rfl := ss s' (eg.symm.trans z5) z2
          exact ⟨s0, z3, z6⟩
        · rw [hw] at z; exact absurd z n23
        · rw [hw] at z; exact absurd z n24
      by_cases cW : v.1 10 b = 1
      · obtain ⟨s0, hs0, e6, e11, -⟩ := shipslot h hb cW
        have s0s : ∀ s', v.1 11 b = nI s' → s' < 72 → s0 = s' := fun s' q _ => nI_inj (by omega) (by omega) (e11.symm.trans q)
        have eR' : RE N v o c ↔ RC v c (s0 / 12) ∧ RC v c (s / 12) := eR.trans ⟨fun ⟨s', z1, _, z3, z4⟩ => by obtain rfl := s0s s' z3 z1; exact z4, fun z => ⟨s0, hs0, cW, e11, z⟩⟩
        have eP' : PO N P v o ↔ TK v s0 ∧ s ≠ s0 ∧ MB N v b s := eP.trans ⟨fun ⟨s', z1, _, z3, z4⟩ => by obtain rfl := s0s s' z3 z1; exact z4, fun z => ⟨s0, hs0, cW, e11, z⟩⟩
        have eNe : (nI s = nI s0) ↔ s = s0 := nI_eq (by omega) (by omega)
        have eNs : (sN s0 = sN s) ↔ s = s0 := ⟨fun z => (sN_inj s0 hs0 s hs z).symm, fun z => by rw [z]⟩
        refine ⟨?_, ?_, ?_⟩
        · have d : pX6_canDo (nI o) (nI c) u = bnd (pX1_reaches (nI c) (nI (s / 12)) u) (fun r27 w28 => if r27 = 0 then some (0, w28) else bnd (pX6_canTake (nI b) (nI c) w28) (fun r31 w32 => if r31 = 0 then some (0, w32) else if rg w32 6 (nI b) = sN s then some (0, w32) else bnd (pX6_mayBeIn (nI b) (sN s) w32) (fun r35 w36 => if r35 = 0 then some (0, w36) else some (1, w36)))) := by
            unfold pX6_canDo pX6_canDo_b213
            rw [w6, hw, if_neg n20, if_neg n21, if_pos rfl, p6, ep, (sN_facts s hs).2.2.1, i6, eb]
          rw [d, c_reaches h hc, bnd_some]
          by_cases cR : RC v c (s / 12)
          · rw [b2p_t cR, if_neg one0, c_canTake h hb hs0 hc cW e11, bnd_some]
            by_cases cT : RC v c (s0 / 12) ∧ TK v s0
            · rw [b2p_t cT, if_neg one0, rg_n (show b < rl 6 from hb6), e6]
              by_cases cE : s = s0
              · rw [if_pos (eNs.mpr cE), b2p_f (fun q => (eP'.mp q.2).2.1 cE)]
              · rw [if_neg (fun z => cE (eNs.mp z)), c_mayBeIn h hb hs, bnd_some]
                by_cases cM : MB N v b s
                · rw [b2p_t cM, if_neg one0, b2p_t ⟨eR'.mpr ⟨cT.1, cR⟩, eP'.mpr ⟨cT.2, cE, cM⟩⟩]
                · rw [b2p_f cM, if_pos rfl, b2p_f (fun q => cM (eP'.mp q.2).2.2)]
            · rw [b2p_f cT, if_pos rfl, b2p_f (fun q => cT ⟨(eR'.mp q.1).1, (eP'.mp q.2).1⟩)]
          · rw [b2p_f cR, if_pos rfl, b2p_f (fun q => cR (eR'.mp q.1).2)]
        · unfold pX7_reaches pX7_reaches_b60 pX7_reaches_b64 pX7_reaches_b65 pX7_reaches_b103 pX7_reaches_b99
          simp only [ckS ho20 K20, ckS2 ho20 K20, if_false, co]
          rw [hw, if_pos (show (2 : Int32) < 3 by decide), if_neg n20, eb]
          simp only [ckS hb6 K60, ckS2 hb6 K60, if_false, cb]
          rw [if_pos cW, e11, p12 hs0, m_isWithin hc, bnd_some]
          by_cases cR0 : RC v c (s0 / 12)
          · rw [b2p_t cR0, if_neg one0, if_neg one0, hw, if_neg n21, eg, p12 hs, m_isWithin hc, bnd_some]
            by_cases cR : RC v c (s / 12)
            · rw [b2p_t cR, if_neg one0, b2p_t (eR'.mpr ⟨cR0, cR⟩)]
            · rw [b2p_f cR, if_pos rfl, b2p_f (fun q => cR (eR'.mp q).2)]
          · rw [b2p_f cR0, if_pos rfl, if_pos trivial, b2p_f (fun q => cR0 (eR'.mp q).1)]
        · have d : pX7_isPossible (nI o) v = (if v.1 10 b = 1 then bnd (pX7_canTake (nI b) v) (fun r z => if r = 0 then some (0, z) else if z.1 20 o = z.1 11 b then some (0, z) else bnd (pX7_slotMay (nI b) (z.1 20 o) z) (fun r z => if r = 0 then some (0, z) else some (1, z))) else some (0, v)) := by
            unfold pX7_isPossible pX7_isPossible_b190
            simp only [ckS ho20 K20, ckS2 ho20 K20, if_false, co]
            rw [hw, if_neg n20, if_neg n21, if_pos rfl, eb]
            simp only [ckS hb6 K60, ckS2 hb6 K60, if_false, cb]
          rw [d, if_pos cW, m_canTake h hb hs0 e11, bnd_some]
          by_cases cT : TK v s0
          · rw [b2p_t cT, if_neg one0, eg, e11]
            by_cases cE : s = s0
            · rw [if_pos (eNe.mpr cE), b2p_f (fun q => (eP'.mp q).2.1 cE)]
            · rw [if_neg (fun z => cE (eNe.mp z)), m_slotMay h hb hs, bnd_some]
              by_cases cM : MB N v b s
              · rw [b2p_t cM, if_neg one0, b2p_t (eP'.mpr ⟨cT, cE, cM⟩)]
              · rw [b2p_f cM, if_pos rfl, b2p_f (fun q => cM (eP'.mp q).2.2)]
          · rw [b2p_f cT, if_pos rfl, b2p_f (fun q => cT (eP'.mp q).1)]
      · have nR : ¬ RE N v o c := fun q => by obtain ⟨_, _, z, _⟩ := eR.mp q; exact cW z
        have nP : ¬ PO N P v o := fun q => by obtain ⟨_, _, z, _⟩ := eP.mp q; exact cW z
        refine ⟨?_, ?_, ?_⟩
        · have d : pX6_canDo (nI o) (nI c) u = bnd (pX1_reaches (nI c) (nI (s / 12)) u) (fun r27 w28 => if r27 = 0 then some (0, w28) else bnd (pX6_canTake (nI b) (nI c) w28) (fun r31 w32 => if r31 = 0 then some (0, w32) else if rg w32 6 (nI b) = sN s then some (0, w32) else bnd (pX6_mayBeIn (nI b) (sN s) w32) (fun r35 w36 => if r35 = 0 then some (0, w36) else some (1, w36)))) := by
            unfold pX6_canDo pX6_canDo_b213
            rw [w6, hw, if_neg n20, if_neg n21, if_pos rfl, p6, ep, (sN_facts s hs).2.2.1, i6, eb]
          have e0 : pX6_canTake (nI b) (nI c) u = some (0, u) := by
            unfold pX6_canTake; rw [rg_n (show b < rl 5 from hb6), k6, if_neg cW]
          rw [d, c_reaches h hc, bnd_some, b2p_f (p := RE N v o c ∧ PO N P v o) (fun q => nR q.1)]
          rcases b2p_01 (RC v c (s / 12)) with z | z
          · rw [if_pos z]
          · rw [z, if_neg one0, e0, bnd_some, if_pos rfl]
        · unfold pX7_reaches pX7_reaches_b60 pX7_reaches_b64 pX7_reaches_b65 pX7_reaches_b103 pX7_reaches_b99
          simp only [ckS ho20 K20, ckS2 ho20 K20, if_false, co]
          rw [hw, if_pos (show (2 : Int32) < 3 by decide), if_neg n20, eb]
          simp only [ckS hb6 K60, ckS2 hb6 K60, if_false, cb]
          rw [if_neg cW, if_pos trivial, b2p_f nR]
        · unfold pX7_isPossible pX7_isPossible_b190
          simp only [ckS ho20 K20, ckS2 ho20 K20, if_false, co]
          rw [hw, if_neg n20, if_neg n21, if_pos rfl, eb]
          simp only [ckS hb6 K60, ckS2 hb6 K60, if_false, cb]
          rw [if_neg cW, b2p_f nP]
  · -- LAND
    have hb6 : b < 60 := by omega
    have cb : (nI b).toNatClampNeg = b := nI_clamp (by omega)
    have bs : ∀ b', nI b = nI b' → b' < N → b = b' := fun b' q _ => nI_inj (by omega) (by omega) q
    have ts : ∀ t', nI t = nI t' → t' < 10 → t = t' := fun t' q _ => nI_inj (by omega) (by omega) q
    obtain ⟨k1, -, -, -, k5, k6, -⟩ := h2 b hb
    have eR : RE N v o c ↔ ∃ s0, s0 < 72 ∧ v.1 10 b = 1 ∧ v.1 11 b = nI s0 ∧ RC v c (s0 / 12) := by
      refine ⟨fun q => ?_, fun ⟨s0, z1, z2, z3, z4⟩ => Or.inr (Or.inl ⟨hw, b, s0, hb, z1, eb, z2, z3, z4⟩)⟩
      rcases q with ⟨z, -⟩ | ⟨-, b', s0, z1, z3, z4, z6⟩ | ⟨z, -⟩ | ⟨z, -⟩
      · rw [hw] at z; exact absurd z one0
      · obtain rfl := bs b' (eb.symm.trans z4) z1
        exact ⟨s0, z3, z6⟩
      · rw [hw] at z; exact absurd z n12
      · rw [hw] at z; rcases z with z | z
        · exact absurd z n13
        · exact absurd z n14
    have eP : PO N P v o ↔ ∃ s0, s0 < 72 ∧ v.1 10 b = 1 ∧ v.1 11 b = nI s0 ∧ TK v s0 ∧ v.1 9 b = 7 ∧ SM (v.1 5 b) t v := by
      refine ⟨fun q => ?_, fun ⟨s0, z1, z2⟩ => Or.inr (Or.inl ⟨hw, b, t, s0, hb, ht, z1, eb, eg, z2⟩)⟩
      rcases q with ⟨z, -⟩ | ⟨-, b', t', s0, z1, z2, z3, z4, z5, z6⟩ | ⟨z, -⟩ | ⟨z, -⟩ | ⟨z, -⟩
      · rw [hw] at z; exact absurd z one0
      · obtain rfl := bs b' (eb.symm.trans z4) z1
        obtain rfl := ts t' (eg.symm.trans z5) z2
        exact ⟨s0, z3, z6⟩
      · rw [hw] at z; exact absurd z n12
      · rw [hw] at z; exact absurd z n13
      · rw [hw] at z; exact absurd z n14
    by_cases cW : v.1 10 b = 1
    · obtain ⟨s0, hs0, e6, e11, -⟩ := shipslot h hb cW
      have s0s : ∀ s', v.1 11 b = nI s' → s' < 72 → s0 = s' := fun s' q _ => nI_inj (by omega) (by omega) (e11.symm.trans q)
      have eR' : RE N v o c ↔ RC v c (s0 / 12) := eR.trans ⟨fun ⟨s', z1, _, z3, z4⟩ => by obtain rfl := s0s s' z3 z1; exact z4, fun z => ⟨s0, hs0, cW, e11, z⟩⟩
      have eP' : PO N P v o ↔ TK v s0 ∧ v.1 9 b = 7 ∧ SM (v.1 5 b) t v := eP.trans ⟨fun ⟨s', z1, _, z3, z4⟩ => by obtain rfl := s0s s' z3 z1; exact z4, fun z => ⟨s0, hs0, cW, e11, z⟩⟩
      refine ⟨?_, ?_, ?_⟩
      · unfold pX6_canDo pX6_canDo_b156
        rw [w6, hw, if_neg one0, if_pos rfl, p6, ep, i6, eb, c_canTake h hb hs0 hc cW e11, bnd_some]
        by_cases cT : RC v c (s0 / 12) ∧ TK v s0
        · rw [b2p_t cT, if_neg one0, c_isHeld hb6, bnd_some, k5]
          by_cases c7 : v.1 9 b = 7
          · rw [if_pos c7, if_pos rfl, rg_n (show b < rl 0 from hb6), k1, c_mayBeStacked h _ ht, bnd_some]
            by_cases cM : SM (v.1 5 b) t v
            · rw [b2p_t cM, if_neg one0, b2p_t ⟨eR'.mpr cT.1, eP'.mpr ⟨cT.2, c7, cM⟩⟩]
            · rw [b2p_f cM, if_pos rfl, b2p_f (fun q => cM (eP'.mp q.2).2.2)]
          · rw [if_neg c7, if_neg one0, b2p_f (fun q => c7 (eP'.mp q.2).2.1)]
        · rw [b2p_f cT, if_pos rfl, b2p_f (fun q => cT ⟨eR'.mp q.1, (eP'.mp q.2).1⟩)]
      · unfold pX7_reaches pX7_reaches_b60 pX7_reaches_b64 pX7_reaches_b65 pX7_reaches_b103 pX7_reaches_b99
        simp only [ckS ho20 K20, ckS2 ho20 K20, if_false, co]
        rw [hw, if_pos (show (1 : Int32) < 3 by decide), if_neg one0, eb]
        simp only [ckS hb6 K60, ckS2 hb6 K60, if_false, cb]
        rw [if_pos cW, e11, p12 hs0, m_isWithin hc, bnd_some]
        by_cases cR0 : RC v c (s0 / 12)
        · rw [b2p_t cR0, if_neg one0, if_neg one0, if_pos hw, b2p_t (eR'.mpr cR0)]
        · rw [b2p_f cR0, if_pos rfl, if_pos trivial, b2p_f (fun q => cR0 (eR'.mp q))]
      · unfold pX7_isPossible pX7_isPossible_b137
        simp only [ckS ho20 K20, ckS2 ho20 K20, if_false, co]
        rw [hw, if_neg one0, if_pos rfl, eb]
        simp only [ckS hb6 K60, ckS2 hb6 K60, if_false, cb]
        rw [if_pos cW, m_canTake h hb hs0 e11, bnd_some]
        by_cases cT : TK v s0
        · rw [b2p_t cT, if_neg one0, m_isHeld hb6, bnd_some]
          by_cases c7 : v.1 9 b = 7
          · rw [if_pos c7, if_pos rfl, eg, m_stackMay h hb6 ht, bnd_some]
            by_cases cM : SM (v.1 5 b) t v
            · rw [b2p_t cM, if_neg one0, b2p_t (eP'.mpr ⟨cT, c7, cM⟩)]
            · rw [b2p_f cM, if_pos rfl, b2p_f (fun q => cM (eP'.mp q).2.2)]
          · rw [if_neg c7, if_neg one0, b2p_f (fun q => c7 (eP'.mp q).2.1)]
        · rw [b2p_f cT, if_pos rfl, b2p_f (fun q => cT (eP'.mp q).1)]
    · have nR : ¬ RE N v o c := fun q => by obtain ⟨_, _, z, _⟩ := eR.mp q; exact cW z
      have nP : ¬ PO N P v o := fun q => by obtain ⟨_, _, z, _⟩ := eP.mp q; exact cW z
      refine ⟨?_, ?_, ?_⟩
      · have e0 : pX6_canTake (nI b) (nI c) u = some (0, u) := by
          unfold pX6_canTake; rw [rg_n (show b < rl 5 from hb6), k6, if_neg cW]
        unfold pX6_canDo pX6_canDo_b156
        rw [w6, hw, if_neg one0, if_pos rfl, i6, eb, e0, bnd_some, if_pos rfl, b2p_f (fun q => nR q.1)]
      · unfold pX7_reaches pX7_reaches_b60 pX7_reaches_b64 pX7_reaches_b65 pX7_reaches_b103 pX7_reaches_b99
        simp only [ckS ho20 K20, ckS2 ho20 K20, if_false, co]
        rw [hw, if_pos (show (1 : Int32) < 3 by decide), if_neg one0, eb]
        simp only [ckS hb6 K60, ckS2 hb6 K60, if_false, cb]
        rw [if_neg cW, if_pos trivial, b2p_f nR]
      · unfold pX7_isPossible pX7_isPossible_b137
        simp only [ckS ho20 K20, ckS2 ho20 K20, if_false, co]
        rw [hw, if_neg one0, if_pos rfl, eb]
        simp only [ckS hb6 K60, ckS2 hb6 K60, if_false, cb]
        rw [if_neg cW, b2p_f nP]
  · -- OPEN, SHUT
    have cy : (nI y).toNatClampNeg = y := nI_clamp (by omega)
    have K6 : 6 < 2 ^ 31 := by decide
    have ys : ∀ y', nI y = nI y' → y' < 6 → y = y' := fun y' q _ => nI_inj (by omega) (by omega) q
    obtain ⟨o1, o2⟩ := hop y hy
    have eh : u.2 0 = v.2 7 := h1.2.2.2.2.2.2.2.2.2.1
    have lt3 : ¬ v.1 18 o < 3 := by
      rcases hw with hw | hw <;> rw [hw] <;> decide
    have eR : RE N v o c ↔ RC v c y := by
      refine ⟨fun q => ?_, fun q => Or.inr (Or.inr (Or.inr ⟨hw, y, hy, ey, q⟩))⟩
      rcases q with ⟨z, -⟩ | ⟨z, -⟩ | ⟨z, -⟩ | ⟨-, y', z1, z2, z3⟩
      · exact absurd (show v.1 18 o < 3 by rw [z]; decide) lt3
      · exact absurd (show v.1 18 o < 3 by rw [z]; decide) lt3
      · exact absurd (show v.1 18 o < 3 by rw [z]; decide) lt3
      · obtain rfl := ys y' (ey.symm.trans z2) z1; exact z3
    have mR : pX7_reaches (nI o) (nI c) v = some (b2p (RE N v o c), v) := by
      unfold pX7_reaches
      simp only [ckS ho20 K20, ckS2 ho20 K20, if_false, co]
      rw [if_neg lt3, ey, m_isWithin hc, bnd_some, if_pos (b2p_01 _), b2p_c eR]
    rcases hw with hw | hw
    · have eP : PO N P v o ↔ v.1 2 y = 0 ∧ ¬ anyTop v y 12 ∧ v.1 3 y ≤ v.2 7 := by
        refine ⟨fun q => ?_, fun q => Or.inr (Or.inr (Or.inr (Or.inl ⟨hw, y, hy, ey, q⟩)))⟩
        rcases q with ⟨z, -⟩ | ⟨z, -⟩ | ⟨z, -⟩ | ⟨-, y', z1, z2, z3⟩ | ⟨z, -⟩
        · rw [hw] at z; exact absurd z n30
        · rw [hw] at z; exact absurd z n31
        · rw [hw] at z; exact absurd z n32
        · obtain rfl := ys y' (ey.symm.trans z2) z1; exact z3
        · rw [hw] at z; exact absurd z n34
      refine ⟨?_, mR, ?_⟩
      · have d : pX6_canDo (nI o) (nI c) u = bnd (pX1_reaches (nI c) (nI y) u) (fun r z => if r = 0 then some (0, z) else bnd (pX4_isOpen (nI y) z) (fun r z => if r = 0 then bnd (pX6_isJammed (nI y) z) (fun r z => if r = 0 then bnd (pX4_boxesOnTop (nI y) z) (fun r z => if r = 0 then some (1, z) else some (0, z)) else some (0, z)) else some (0, z))) := by
          unfold pX6_canDo pX6_canDo_b261
          rw [w6, hw, if_neg n30, if_neg n31, if_neg n32, if_pos rfl, i6, ey]
        rw [d, c_reaches h hc, bnd_some]
        by_cases cR : RC v c y
        · rw [b2p_t cR, if_neg one0, c_isOpen hy, bnd_some, o1]
          by_cases c0 : v.1 2 y = 0
          · rw [c0, if_neg (show ¬ (0 : Int32) = 1 by decide), if_pos rfl, c_isJammed hy, bnd_some, hjm y hy, eh]
            by_cases cj : v.1 3 y ≤ v.2 7
            · rw [if_pos cj, if_pos rfl, c_onTop h hy, bnd_some]
              have hlt : onTop v y < 2 ^ 31 := by
                have : ∀ s, eS v s ≤ 1 := fun s => by
                  by_cases z : v.1 0 s = -1
                  · rw [eS_0 z]; omega
                  · rw [eS_1 z]; omega
                have a1 := this (12 * y + 2); have a2 := this (12 * y + 3); have a3 := this (12 * y + 6); have a4 := this (12 * y + 7); have a5 := this (12 * y + 10); have a6 := this (12 * y + 11)
                unfold onTop; omega
              by_cases ct : anyTop v y 12
              · rw [if_neg (fun z => onTop_0.mp ((zero_nI hlt).mp z) ct), b2p_f (fun q => (eP.mp q.2).2.1 ct)]
              · rw [if_pos ((zero_nI hlt).mpr (onTop_0.mpr ct)), b2p_t ⟨eR.mpr cR, eP.mpr ⟨c0, ct, cj⟩⟩]
            · rw [if_neg cj, if_neg one0, b2p_f (fun q => cj (eP.mp q.2).2.2)]
          · rw [o2.resolve_left c0, if_pos rfl, if_neg one0, b2p_f (fun q => c0 (eP.mp q.2).1)]
        · rw [b2p_f cR, if_pos rfl, b2p_f (fun q => cR (eR.mp q.1))]
      · unfold pX7_isPossible
        simp only [ckS ho20 K20, ckS2 ho20 K20, if_false, co]
        rw [hw, if_neg n30, if_neg n31, if_neg n32, if_pos rfl, ey]
        have mc : pX7_canOpen (nI y) v = some (b2p (PO N P v o), v) := by
          unfold pX7_canOpen pX7_canOpen_b34
          simp only [ckS hy K6, ckS2 hy K6, if_false, cy]
          by_cases c0 : v.1 2 y = 0
          · rw [if_pos c0, m_hasOnTop hy, bnd_some]
            by_cases ct : anyTop v y 12
            · rw [b2p_t ct, if_neg one0, b2p_f (fun q => (eP.mp q).2.1 ct)]
            · rw [b2p_f ct, if_pos rfl]
              by_cases cj : v.1 3 y ≤ v.2 7
              · rw [if_neg (Int32.not_lt.mpr cj), b2p_t (eP.mpr ⟨c0, ct, cj⟩)]
              · rw [if_pos (Int32.not_le.mp cj), b2p_f (fun q => cj (eP.mp q).2.2)]
          · rw [if_neg c0, b2p_f (fun q => c0 (eP.mp q).1)]
        rw [mc, bnd_some, if_pos (b2p_01 _)]
    · have eP : PO N P v o ↔ v.1 2 y = 1 := by
        refine ⟨fun q => ?_, fun q => Or.inr (Or.inr (Or.inr (Or.inr ⟨hw, y, hy, ey, q⟩)))⟩
        rcases q with ⟨z, -⟩ | ⟨z, -⟩ | ⟨z, -⟩ | ⟨z, -⟩ | ⟨-, y', z1, z2, z3⟩
        · rw [hw] at z; exact absurd z n40
        · rw [hw] at z; exact absurd z n41
        · rw [hw] at z; exact absurd z n42
        · rw [hw] at z; exact absurd z n43
        · obtain rfl := ys y' (ey.symm.trans z2) z1; exact z3
      refine ⟨?_, mR, ?_⟩
      · have d : pX6_canDo (nI o) (nI c) u = bnd (pX1_reaches (nI c) (nI y) u) (fun r z => if r = 0 then some (0, z) else bnd (pX4_isOpen (nI y) z) (fun r z => if r = 0 then some (0, z) else some (1, z))) := by
          unfold pX6_canDo pX6_canDo_b290
          rw [w6, hw, if_neg n40, if_neg n41, if_neg n42, if_neg n43, if_pos rfl, i6, ey]
        rw [d, c_reaches h hc, bnd_some]
        by_cases cR : RC v c y
        · rw [b2p_t cR, if_neg one0, c_isOpen hy, bnd_some, o1]
          by_cases c1 : v.1 2 y = 1
          · rw [if_pos c1, if_neg one0, b2p_t ⟨eR.mpr cR, eP.mpr c1⟩]
          · rw [if_neg c1, if_pos rfl, b2p_f (fun q => c1 (eP.mp q.2))]
        · rw [b2p_f cR, if_pos rfl, b2p_f (fun q => cR (eR.mp q.1))]
      · unfold pX7_isPossible
        simp only [ckS ho20 K20, ckS2 ho20 K20, if_false, co]
        rw [hw, if_neg n40, if_neg n41, if_neg n42, if_neg n43, ey]
        simp only [ckS hy K6, ckS2 hy K6, if_false, cy]
        rw [if_pos o2]
        rcases o2 with z | z
        · rw [b2p_f (fun q => by have := eP.mp q; rw [z] at this; exact n01 this), z]
        · rw [b2p_t (eP.mpr z), z]
theorem m_isDoable {u v : St} {N O P o c : Nat} (h : RelN N O P u v) (ho : o < O) (hc : c < 2) : pX7_isDoable (nI o) (nI c) v = some (b2p (RE N v o c ∧ PO N P v o), v) := by
  obtain ⟨-, q1, q2⟩ := can_all h ho hc
  unfold pX7_isDoable pX7_isDoable_b21
  rw [q1, bnd_some]
  by_cases cR : RE N v o c
  · rw [b2p_t cR, if_neg one0, q2, bnd_some]
    by_cases cP : PO N P v o
    · rw [b2p_t cP, if_neg one0, b2p_t ⟨cR, cP⟩]
    · rw [b2p_f cP, if_pos rfl, b2p_f (fun q => cP q.2)]
  · rw [b2p_f cR, if_pos rfl, b2p_f (fun q => cR q.1)]
theorem sx_can : Sx_can Rel := by
  rintro u v ⟨N, O, P, h⟩ a1 a2
  obtain ⟨h1, -⟩ := id h
  have m20 : ∀ x y : Int32, pX7_can_b20 x y v = some (0, sS v 0 1) := by
    intro x y; unfold pX7_can_b20 pX7_can_b21 pX7_can_b44; rw [e1]
  rcases order_cases h1.2.1 h1.2.2.2.2.2.1 h1.2.2.2.2.2.2.1 a1 with ⟨h6, h7⟩ | ⟨o, ho, rfl, h6, h7⟩
  · refine ⟨1, 0, u, 0, sS v 0 1, ?_, Or.inr rfl, ?_, rfl, fun h => absurd h (by decide), N, O, P, h⟩
    · unfold pX6_can; rw [h6]; rfl
    · unfold pX7_can; rw [h7, bnd_some, if_pos rfl, m20]
  rcases crane_cases a2 with ⟨y6, y7⟩ | ⟨c, hc, rfl, y6, y7⟩
  · refine ⟨1, 0, u, 0, sS v 0 1, ?_, Or.inr rfl, ?_, rfl, fun h => absurd h (by decide), N, O, P, h⟩
    · unfold pX6_can; rw [h6, bnd_some, if_neg one0, if_pos y6]
    · unfold pX7_can; rw [h7, bnd_some, if_neg one0, if_pos y7, m20]
  · have h' : RelN N O P u (sS v 0 0) := h
    refine ⟨0, b2p (RE N (sS v 0 0) o c ∧ PO N P (sS v 0 0) o), u, b2p (RE N (sS v 0 0) o c ∧ PO N P (sS v 0 0) o), sS v 0 0, ?_, Or.inl rfl, ?_, rfl, fun _ => rfl, N, O, P, h⟩
    · unfold pX6_can; rw [h6, bnd_some, if_neg one0, if_neg (by rw [y6]; decide), (can_all h' ho hc).1, bnd_some, if_pos (b2p_01 _)]
    · unfold pX7_can pX7_can_b21 pX7_can_b44
      rw [h7, bnd_some, if_neg one0, if_neg (by rw [y7]; decide), e0, m_isDoable h' ho hc, bnd_some]
      rcases Classical.em (RE N (sS v 0 0) o c ∧ PO N P (sS v 0 0) o) with q | q
      · rw [b2p_t q, if_neg one0]
      · rw [b2p_f q, if_pos rfl]
