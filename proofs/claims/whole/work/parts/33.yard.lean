/-! TANKS, THE YARD, THE ROW OF ORDERS -/
def b2i (p : Prop) [Decidable p] : Int32 := if p then 1 else 0
theorem sx_tank : Sx_tank Rel := by
  rintro u v ⟨N, O, P, h⟩ a1 a2
  rcases bay_cases a1 with ⟨h6, h7⟩ | ⟨i, hi, rfl, h6, h7⟩
  · refine ⟨1, 0, u, 0, sS v 0 1, ?_, Or.inr (Or.inl rfl), ?_, rfl, fun h => absurd h (by decide), N, O, P, h⟩
    · simp [pX6_tank, h6]
    · simp [pX7_tank, pX7_tank_b27, h7, t1]
  rcases inL a2 0 99 0 99 rfl rfl (by decide) (by decide) with z | ⟨n, -, hn, rfl, z⟩
  · refine ⟨2, 0, u, 0, sS v 0 2, ?_, Or.inr (Or.inr rfl), ?_, rfl, fun h => absurd h (by decide), N, O, P, h⟩
    · simp [pX6_tank, h6, isWithin_eq, z]
    · simp [pX7_tank, pX7_tank_b27, h7, z, t2]
  · obtain ⟨h1, h2, h3, h4, h5, hg, ho, hj, hw, hl, hr⟩ := id h
    obtain ⟨w1, w2⟩ := hw i hi
    refine ⟨0, v.1 4 i, sA (sA u 11 (upd (u.1 11) i (nI n))) 12 (upd (u.1 12) i (u.1 12 i + (nI n - v.1 4 i))), v.1 4 i, sA (sS v 0 0) 4 (upd (v.1 4) i (nI n)), ?_, Or.inl rfl, ?_, rfl, fun _ => rfl, N, O, P, h1, h2, h3, h4, h5, hg, ho, hj, ?_, ?_, hr⟩
    · simp only [pX6_tank, h6, one0, if_false, isWithin_eq, z, rg_n (show i < rl 11 from hi), rs_n (show i < rl 11 from hi), ra_n (show i < rl 12 from hi), w1]; rfl
    · simp only [pX7_tank, pX7_tank_b27, h7, one0, if_false, z, t0, ckS hi (show 6 < 2 ^ 31 by decide), ckS2 hi (show 6 < 2 ^ 31 by decide), nI_clamp (show i < 2 ^ 31 by omega)]; rfl
    · intro k hk
      show upd (u.1 11) i (nI n) k = upd (v.1 4) i (nI n) k ∧ ∃ m, m ≤ 99 ∧ upd (v.1 4) i (nI n) k = nI m
      by_cases e : k = i
      · subst e; simp only [pk_us]; exact ⟨trivial, n, hn, rfl⟩
      · simp only [pk_un e]; exact hw k hk
    · refine ⟨fun k hk => ?_, hl.2⟩
      have q := hl.1 k hk
      show upd (u.1 12) i (u.1 12 i + (nI n - v.1 4 i)) k = upd (v.1 4) i (nI n) k + sumN 12 (fun j => wt (v.1 6) (v.1 0 (12 * k + j)))
      by_cases e : k = i
      · subst e; simp only [pk_us]; rw [q]; grind
      · simp only [pk_un e]; exact q
/-- the stacks -/
theorem st_ix {t k : Nat} : (nI t * 4) + nI k = nI (4 * t + k) := by
  rw [show (4 : Int32) = nI 4 from rfl, pk_mul, nI_add]; congr 1; omega
theorem st_ix2 {t k : Nat} : (4 * nI t) + nI k = nI (4 * t + k) := by
  rw [show (4 : Int32) = nI 4 from rfl, pk_mul, nI_add]
theorem nI_sub1 {k : Nat} (h : 0 < k) : nI k - 1 = nI (k - 1) := by
  obtain ⟨j, rfl⟩ : ∃ j, k = j + 1 := ⟨k - 1, by omega⟩
  exact nI_pred j
/-- whether a stack may have a weight -/
def SM (w : Int32) (t : Nat) (v : St) : Prop := v.1 12 t < 4 ∧ (v.1 12 t = 0 ∨ w ≤ v.1 5 (v.1 13 (4 * nI t + v.1 12 t - 1).toNatClampNeg).toNatClampNeg + 5)
noncomputable def b2p (p : Prop) : Int32 := @ite Int32 p (Classical.propDecidable p) 1 0
theorem b2p_t {p : Prop} (h : p) : b2p p = 1 := by unfold b2p; exact if_pos h
theorem b2p_f {p : Prop} (h : ¬ p) : b2p p = 0 := by unfold b2p; exact if_neg h
theorem b2p_01 (p : Prop) : b2p p = 0 ∨ b2p p = 1 := by
  rcases Classical.em p with h | h
  · exact Or.inr (b2p_t h)
  · exact Or.inl (b2p_f h)
theorem b2p_0 {p : Prop} : b2p p = 0 ↔ ¬ p := by
  rcases Classical.em p with h | h
  · rw [b2p_t h]; exact ⟨fun e => absurd e one0, fun q => absurd h q⟩
  · rw [b2p_f h]; exact ⟨fun _ => h, fun _ => rfl⟩
theorem c_mayBeStacked {u v : St} {N O P : Nat} (h : RelN N O P u v) (w : Int32) {t : Nat} (ht : t < 10) : pX6_mayBeStacked w (nI t) u = some (b2p (SM w t v), u) := by
  obtain ⟨h1, h2, h3, hy, -⟩ := id h
  have hN := h1.1
  obtain ⟨k, hk, e1, e2, hb, -, -⟩ := hy t ht
  have r7 : rg u 7 (nI t) = nI k := by rw [rg_n (show t < rl 7 from ht), e1]
  rcases Nat.eq_zero_or_pos k with rfl | hp
  · have hs : SM w t v := ⟨by rw [e2]; decide, Or.inl e2⟩
    unfold pX6_mayBeStacked; rw [r7, b2p_t hs]; rfl
  · have hk0 : ¬ nI k = 0 := nI_ne0 hp (by omega)
    by_cases h4 : 4 ≤ k
    · have hs : ¬ SM w t v := by
        intro q; have := q.1; rw [e2] at this; exact nI_nlt h4 (by omega) this
      unfold pX6_mayBeStacked pX6_mayBeStacked_b46
      rw [r7, if_neg hk0, if_pos (show 4 ≤ nI k from nI_le h4 (by omega)), b2p_f hs]
    · obtain ⟨g1, b, hbN, g2, -, -⟩ := hb (k - 1) (by omega)
      have hb6 : b < 60 := by omega
      have top : pX5_topOf (nI t) u = some (nI b, u) := by
        unfold pX5_topOf
        rw [r7, nI_sub1 hp, if_pos (nI_pos' (by omega)), st_ix, rg_n (show 4 * t + (k - 1) < rl 8 from (by show 4 * t + (k - 1) < 40; omega)), g1, g2]
      have ei : (4 * nI t + v.1 12 t - 1) = nI (4 * t + (k - 1)) := by
        rw [e2, st_ix2, nI_sub1 (by omega)]; congr 1; omega
      have hsm : SM w t v ↔ w ≤ v.1 5 b + 5 := by
        unfold SM
        rw [ei, nI_clamp (by omega), g2, nI_clamp (by omega), e2]
        exact ⟨fun q => q.2.resolve_left hk0, fun q => ⟨nI_lt (show k < 4 by omega) (by decide), Or.inr q⟩⟩
      have et := (h2 b hbN).1
      unfold pX6_mayBeStacked pX6_mayBeStacked_b46
      rw [r7, if_neg hk0, if_neg (show ¬ 4 ≤ nI k from nI_ge (show k < 4 by omega) (by decide)), top, bnd_some]
      unfold pX0_mayCarry
      rw [rg_n (show b < rl 0 from hb6), et]
      by_cases q : w ≤ v.1 5 b + 5
      · rw [if_neg (Int32.not_lt.mpr q), bnd_some, b2p_t (hsm.mpr q), if_neg one0]
      · rw [if_pos (Int32.not_le.mp q), bnd_some, b2p_f (fun z => q (hsm.mp z)), if_pos rfl]
theorem m_stackMay {u v : St} {N O P : Nat} (h : RelN N O P u v) {b t : Nat} (hb : b < 60) (ht : t < 10) : pX7_stackMay (nI b) (nI t) v = some (b2p (SM (v.1 5 b) t v), v) := by
  obtain ⟨h1, h2, h3, hy, -⟩ := id h
  have hN := h1.1
  obtain ⟨k, hk, e1, e2, hbx, -, -⟩ := hy t ht
  have ec : (nI t).toNatClampNeg = t := nI_clamp (by omega)
  unfold pX7_stackMay pX7_stackMay_b48 pX7_stackMay_b44
  simp only [ckS ht (show 10 < 2 ^ 31 by decide), ckS2 ht (show 10 < 2 ^ 31 by decide), if_false, ec]
  rcases Nat.eq_zero_or_pos k with rfl | hp
  · have hs : SM (v.1 5 b) t v := ⟨by rw [e2]; decide, Or.inl e2⟩
    rw [b2p_t hs, e2]; rfl
  · have hk0 : ¬ nI k = 0 := nI_ne0 hp (by omega)
    by_cases h4 : 4 ≤ k
    · have hs : ¬ SM (v.1 5 b) t v := by
        intro q; have := q.1; rw [e2] at this; exact nI_nlt h4 (by omega) this
      rw [e2, if_pos (show 4 ≤ nI k from nI_le h4 (by omega)), b2p_f hs]
    · obtain ⟨g1, c, hcN, g2, -, -⟩ := hbx (k - 1) (by omega)
      have hc6 : c < 60 := by omega
      have ei : (4 * nI t + v.1 12 t - 1) = nI (4 * t + (k - 1)) := by
        rw [e2, st_ix2, nI_sub1 (by omega)]; congr 1; omega
      have hsm : SM (v.1 5 b) t v ↔ v.1 5 b ≤ v.1 5 c + 5 := by
        unfold SM
        rw [ei, nI_clamp (by omega), g2, nI_clamp (by omega), e2]
        exact ⟨fun q => q.2.resolve_left hk0, fun q => ⟨nI_lt (show k < 4 by omega) (by decide), Or.inr q⟩⟩
      have hix : 4 * t + (k - 1) < 40 := by omega
      rw [if_neg (show ¬ 4 ≤ v.1 12 t by rw [e2]; exact nI_ge (show k < 4 by omega) (by decide)), if_neg (by rw [e2]; exact hk0), ei, ck hix (by decide), nI_clamp (by omega), g2]
      unfold pX7_fits
      rw [ck hb (by decide), ck hc6 (by decide), nI_clamp (show b < 2 ^ 31 by omega), nI_clamp (show c < 2 ^ 31 by omega)]
      by_cases q : v.1 5 b ≤ v.1 5 c + 5
      · rw [if_neg (Int32.not_lt.mpr q), bnd_some, b2p_t (hsm.mpr q), if_neg one0]
      · rw [if_pos (Int32.not_le.mp q), bnd_some, b2p_f (fun z => q (hsm.mp z)), if_pos rfl]
theorem sx_inYard : Sx_inYard Rel := by
  rintro u v ⟨N, O, P, h⟩ a1 a2
  have h9 : ∀ a, a < 0 → ¬ (0 : Int32) ≤ a := fun a q => Int32.not_le.mpr q
  rcases stack_cases a1 with ⟨h6, h7⟩ | ⟨t, ht, rfl, h6, h7⟩
  · refine ⟨1, 0, u, 0, sS v 0 1, ?_, Or.inr rfl, ?_, rfl, fun h => absurd h (by decide), N, O, P, h⟩
    · simp [pX6_inYard, h6]
    · simp [pX7_inYard, pX7_inYard_b16, pX7_inYard_b17, h7, t1]
  by_cases hneg : a2 < 0
  · refine ⟨1, 0, u, 0, sS v 0 1, ?_, Or.inr rfl, ?_, rfl, fun h => absurd h (by decide), N, O, P, h⟩
    · simp only [pX6_inYard, h6, one0, if_false, h9 a2 hneg]
    · simp only [pX7_inYard, pX7_inYard_b16, pX7_inYard_b17, h7, one0, if_false, hneg, if_true, t1]
  · obtain ⟨n, hn, rfl⟩ := nI_of hneg
    obtain ⟨h1, h2, h3, hy, -⟩ := id h
    obtain ⟨k, hk, e1, e2, hb, -, -⟩ := hy t ht
    have ec : (nI t).toNatClampNeg = t := nI_clamp (by omega)
    have r7 : rg u 7 (nI t) = nI k := by rw [rg_n (show t < rl 7 from ht), e1]
    have m7 : pX7_inYard (nI t) (nI n) v = (if v.1 12 t ≤ nI n then some (-1, sS v 0 0) else if ((4 * nI t) + nI n < 0 ∨ 40 ≤ ((4 * nI t) + nI n).toNatClampNeg) then none else some (v.1 13 ((4 * nI t) + nI n).toNatClampNeg, sS v 0 0)) := by
      simp only [pX7_inYard, pX7_inYard_b17, h7, one0, if_false, hneg, t0, ckS ht (show 10 < 2 ^ 31 by decide), ckS2 ht (show 10 < 2 ^ 31 by decide), ec]; rfl
    by_cases hq : k ≤ n
    · refine ⟨0, -1, u, -1, sS v 0 0, ?_, Or.inl rfl, ?_, rfl, fun _ => rfl, N, O, P, h⟩
      · simp only [pX6_inYard, h6, one0, if_false, nI_pos' hn, if_true]
        unfold pX5_boxIn pX5_boxIn_b16
        rw [if_neg hneg, r7, if_neg (nI_nlt hq hn)]; rfl
      · rw [m7, e2, if_pos (nI_le hq hn)]
    · have hix : 4 * t + n < 40 := by omega
      obtain ⟨g1, -⟩ := hb n (by omega)
      refine ⟨0, v.1 13 (4 * t + n), u, v.1 13 (4 * t + n), sS v 0 0, ?_, Or.inl rfl, ?_, rfl, fun _ => rfl, N, O, P, h⟩
      · simp only [pX6_inYard, h6, one0, if_false, nI_pos' hn, if_true]
        unfold pX5_boxIn pX5_boxIn_b16
        rw [if_neg hneg, r7, if_pos (nI_lt (show n < k by omega) (by omega)), st_ix, rg_n (show 4 * t + n < rl 8 from hix), g1]; rfl
      · rw [m7, e2, if_neg (nI_ge (show n < k by omega) (by omega)), st_ix2, ck hix (by decide), nI_clamp (by omega)]
