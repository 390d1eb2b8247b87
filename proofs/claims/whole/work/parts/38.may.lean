/-! WHERE A BOX MAY BE -/
def far (v : St) (bay o : Nat) : Int32 := v.1 11 o / 12 - nI bay
def AP1 (v : St) (b bay o : Nat) : Prop := o = b ∨ ¬ v.1 10 o = 1 ∨ v.1 8 o < 2 ∨ ((far v bay o = 0 → v.1 8 o = v.1 8 b) ∧ (far v bay o * far v bay o = 1 → ¬ v.1 8 o = 4 ∧ ¬ v.1 8 b = 4))
theorem far_abs : ∀ x, x < 6 → ∀ y, y < 6 → ((if 0 ≤ nI x - nI y then nI x - nI y else 0 - (nI x - nI y)) = 0 ↔ nI x - nI y = 0) ∧ ((if 0 ≤ nI x - nI y then nI x - nI y else 0 - (nI x - nI y)) = 1 ↔ (nI x - nI y) * (nI x - nI y) = 1) := by decide +kernel
theorem b2p_c {p q : Prop} (h : p ↔ q) : b2p p = b2p q := by rw [propext h]
theorem c_apart {u v : St} {N O P b bay : Nat} (h : RelN N O P u v) (hb : b < 60) (hbay : bay < 6) : ∀ n x, x ≤ N → N < x + n → pX6_isApartIn_b15 n (nI b) (nI bay) (v.1 8 b) (nI x) u = some (b2p (∀ o, x ≤ o → o < N → AP1 v b bay o), u) := by
  obtain ⟨h1, h2, h3, -⟩ := id h
  have hN := h1.1
  intro n
  induction n with
  | zero => intro x q1 q2; exact absurd q2 (by omega)
  | succ n ih =>
    intro x q1 q2
    rw [pX6_isApartIn_b15_s, show u.2 6 = nI N from h1.2.2.2.1]
    by_cases e : N ≤ x
    · rw [if_pos (nI_le e (by omega)), b2p_t (fun o o1 o2 => absurd o2 (by omega))]
    · have hx : x < N := by omega
      have hx6 : x < 60 := by omega
      rw [if_neg (nI_ge hx (by omega))]
      have go : pX6_isApartIn_b123 (pX6_isApartIn_b15 n) (nI b) (nI bay) (v.1 8 b) (nI x) u = some (b2p (∀ o, x + 1 ≤ o → o < N → AP1 v b bay o), u) := by
        unfold pX6_isApartIn_b123; rw [nI_1]; exact ih (x + 1) hx (by omega)
      have yes : AP1 v b bay x → (some (b2p (∀ o, x + 1 ≤ o → o < N → AP1 v b bay o), u) : Option (Int32 × St)) = some (b2p (∀ o, x ≤ o → o < N → AP1 v b bay o), u) := by
        intro ha
        rw [b2p_c (show (∀ o, x + 1 ≤ o → o < N → AP1 v b bay o) ↔ (∀ o, x ≤ o → o < N → AP1 v b bay o) from ⟨fun q o o1 o2 => by
          by_cases eo : o = x
          · rw [eo]; exact ha
          · exact q o (by omega) o2, fun q o o1 o2 => q o (by omega) o2⟩)]
      have no : ¬ AP1 v b bay x → (some (0, u) : Option (Int32 × St)) = some (b2p (∀ o, x ≤ o → o < N → AP1 v b bay o), u) := by
        intro ha
        rw [b2p_f (fun q => ha (q x (Nat.le_refl x) hx))]
      obtain ⟨k1, k2, k3, k4, k5, k6, -⟩ := h2 x hx
      rw [rg_n (show x < rl 3 from hx6), rg_n (show x < rl 5 from hx6), rg_n (show x < rl 6 from hx6), k4, k6]
      by_cases c1 : nI x = nI b
      · rw [if_pos c1, go]
        exact yes (Or.inl (nI_inj (by omega) (by omega) c1))
      · rw [if_neg c1]
        by_cases c2 : v.1 8 x < 2
        · rw [if_pos c2, go]; exact yes (Or.inr (Or.inr (Or.inl c2)))
        · rw [if_neg c2]
          by_cases c3 : v.1 10 x = 1
          · rw [if_pos c3]
            have hp : ∃ s, s < 72 ∧ u.1 6 x = sN s ∧ v.1 11 x = nI s := by
              rcases h3 x hx with ⟨p1, -⟩ | ⟨-, p⟩ | ⟨p1, -⟩
              · rw [p1] at c3; exact absurd c3 (by decide)
              · exact p
              · rw [p1] at c3; exact absurd c3 (by decide)
            obtain ⟨s, hs, e1, e2⟩ := hp
            have ef : far v bay x = nI (s / 12) - nI bay := by
              unfold far; rw [e2, show (12 : Int32) = nI 12 from rfl, pk_div (by omega) (by decide) (by decide)]
            have eb : pX6_bayOf (u.1 6 x) - nI bay = far v bay x := by rw [e1, (sN_facts s hs).2.2.1, ef]
            rw [eb]
            obtain ⟨f1, f2⟩ := far_abs (s / 12) (by omega) bay hbay
            rw [← ef] at f1 f2
            have hA : AP1 v b bay x ↔ ((far v bay x = 0 → v.1 8 x = v.1 8 b) ∧ (far v bay x * far v bay x = 1 → ¬ v.1 8 x = 4 ∧ ¬ v.1 8 b = 4)) := by
              refine ⟨fun q => ?_, fun q => Or.inr (Or.inr (Or.inr q))⟩
              rcases q with q | q | q | q
              · exact absurd (congrArg nI q) c1
              · exact absurd c3 q
              · exact absurd q c2
              · exact q
            have b104 : (far v bay x = 0 → v.1 8 x = v.1 8 b) → pX6_isApartIn_b104 (pX6_isApartIn_b15 n) (nI b) (nI bay) (v.1 8 b) (nI x) (v.1 8 x) (if 0 ≤ far v bay x then far v bay x else 0 - far v bay x) u = some (b2p (∀ o, x ≤ o → o < N → AP1 v b bay o), u) := by
              intro q0
              unfold pX6_isApartIn_b104 pX6_isApartIn_b121
              by_cases c4 : far v bay x * far v bay x = 1
              · rw [if_pos (f2.mpr c4)]
                by_cases c5 : v.1 8 x = 4
                · rw [if_pos c5]; exact no (fun q => ((hA.mp q).2 c4).1 c5)
                · rw [if_neg c5]
                  by_cases c6 : v.1 8 b = 4
                  · rw [if_pos c6]; exact no (fun q => ((hA.mp q).2 c4).2 c6)
                  · rw [if_neg c6, go]; exact yes (hA.mpr ⟨q0, fun _ => ⟨c5, c6⟩⟩)
              · rw [if_neg (fun q => c4 (f2.mp q)), go]; exact yes (hA.mpr ⟨q0, fun q => absurd q c4⟩)
            by_cases c4 : far v bay x = 0
            · rw [if_pos (f1.mpr c4)]
              by_cases c5 : v.1 8 x = v.1 8 b
              · rw [if_pos c5]; exact b104 (fun _ => c5)
              · rw [if_neg c5]; exact no (fun q => c5 ((hA.mp q).1 c4))
            · rw [if_neg (fun q => c4 (f1.mp q))]; exact b104 (fun q => absurd q c4)
          · rw [if_neg c3, go]; exact yes (Or.inr (Or.inl c3))
theorem m_apart {u v : St} {N O P b bay : Nat} (h : RelN N O P u v) (hb : b < 60) : ∀ n x (F : Prop), x ≤ N → N < x + n → pX7_isApart_b5 n (nI b) (nI bay) (b2p F) (nI x) v = some (b2p (F ∧ ∀ o, x ≤ o → o < N → AP1 v b bay o), v) := by
  obtain ⟨h1, h2, h3, -⟩ := id h
  have hN := h1.1
  intro n
  induction n with
  | zero => intro x F q1 q2; exact absurd q2 (by omega)
  | succ n ih =>
    intro x F q1 q2
    rw [pX7_isApart_b5_s, show v.2 4 = nI N from h1.2.2.2.2.1]
    by_cases e : N ≤ x
    · rw [if_pos (nI_le e (by omega)), if_pos (b2p_01 F)]
      rw [b2p_c (show F ↔ (F ∧ ∀ o, x ≤ o → o < N → AP1 v b bay o) from ⟨fun q => ⟨q, fun o o1 o2 => absurd o2 (by omega)⟩, fun q => q.1⟩)]
    · have hx : x < N := by omega
      have hx6 : x < 60 := by omega
      have cx : (nI x).toNatClampNeg = x := nI_clamp (by omega)
      have cb : (nI b).toNatClampNeg = b := nI_clamp (by omega)
      rw [if_neg (nI_ge hx (by omega))]
      have go : ∀ G : Prop, (G ↔ (F ∧ AP1 v b bay x)) → pX7_isApart_b115 (pX7_isApart_b5 n) (nI b) (nI bay) (b2p G) (nI x) v = some (b2p (F ∧ ∀ o, x ≤ o → o < N → AP1 v b bay o), v) := by
        intro G hG
        unfold pX7_isApart_b115; rw [nI_1, ih (x + 1) G hx (by omega)]
        rw [b2p_c (show (G ∧ ∀ o, x + 1 ≤ o → o < N → AP1 v b bay o) ↔ (F ∧ ∀ o, x ≤ o → o < N → AP1 v b bay o) from ⟨fun ⟨g, q⟩ => ⟨(hG.mp g).1, fun o o1 o2 => by
          by_cases eo : o = x
          · rw [eo]; exact (hG.mp g).2
          · exact q o (by omega) o2⟩, fun ⟨f, q⟩ => ⟨hG.mpr ⟨f, q x (Nat.le_refl x) hx⟩, fun o o1 o2 => q o (by omega) o2⟩⟩)]
      have yes : AP1 v b bay x → pX7_isApart_b115 (pX7_isApart_b5 n) (nI b) (nI bay) (b2p F) (nI x) v = some (b2p (F ∧ ∀ o, x ≤ o → o < N → AP1 v b bay o), v) := fun ha => go F ⟨fun f => ⟨f, ha⟩, fun q => q.1⟩
      have b109 : F → AP1 v b bay x → pX7_isApart_b109 (pX7_isApart_b5 n) (nI b) (nI bay) (nI x) v = some (b2p (F ∧ ∀ o, x ≤ o → o < N → AP1 v b bay o), v) := by
        intro f ha
        have := go True ⟨fun _ => ⟨f, ha⟩, fun _ => trivial⟩
        rw [b2p_t trivial] at this; exact this
      have b113 : ¬ (F ∧ AP1 v b bay x) → pX7_isApart_b113 (pX7_isApart_b5 n) (nI b) (nI bay) (nI x) v = some (b2p (F ∧ ∀ o, x ≤ o → o < N → AP1 v b bay o), v) := by
        intro ha
        have := go False ⟨fun q => q.elim, fun q => ha q⟩
        rw [b2p_f (fun q => q)] at this; exact this
      by_cases c1 : nI x = nI b
      · rw [if_pos c1]; exact yes (Or.inl (nI_inj (by omega) (by omega) c1))
      · rw [if_neg c1]
        simp only [ckS hx6 (show 60 < 2 ^ 31 by decide), ckS2 hx6 (show 60 < 2 ^ 31 by decide), if_false, cx]
        by_cases c3 : v.1 10 x = 1
        · rw [if_pos c3]
          unfold pX7_isDangerous
          simp only [ckS hx6 (show 60 < 2 ^ 31 by decide), ckS2 hx6 (show 60 < 2 ^ 31 by decide), if_false, cx]
          by_cases c2 : v.1 8 x < 2
          · rw [if_pos c2, bnd_some, if_pos rfl]; exact yes (Or.inr (Or.inr (Or.inl c2)))
          · rw [if_neg c2, bnd_some, if_neg one0]
            have hA : AP1 v b bay x ↔ ((far v bay x = 0 → v.1 8 x = v.1 8 b) ∧ (far v bay x * far v bay x = 1 → ¬ v.1 8 x = 4 ∧ ¬ v.1 8 b = 4)) := by
              refine ⟨fun q => ?_, fun q => Or.inr (Or.inr (Or.inr q))⟩
              rcases q with q | q | q | q
              · exact absurd (congrArg nI q) c1
              · exact absurd c3 q
              · exact absurd q c2
              · exact q
            by_cases cF : b2p F = 0
            · rw [if_pos cF]; exact b113 (fun q => b2p_0.mp cF q.1)
            · rw [if_neg cF]
              have f : F := Classical.byContradiction fun q => cF (b2p_0.mpr q)
              simp only [ckS hb (show 60 < 2 ^ 31 by decide), ckS2 hb (show 60 < 2 ^ 31 by decide), if_false, cb]
              have b79 : (far v bay x = 0 → v.1 8 x = v.1 8 b) → pX7_isApart_b79 (pX7_isApart_b5 n) (nI b) (nI bay) (nI x) (far v bay x) v = some (b2p (F ∧ ∀ o, x ≤ o → o < N → AP1 v b bay o), v) := by
                intro q0
                unfold pX7_isApart_b79
                simp only [ckS hx6 (show 60 < 2 ^ 31 by decide), ckS2 hx6 (show 60 < 2 ^ 31 by decide), ckS hb (show 60 < 2 ^ 31 by decide), ckS2 hb (show 60 < 2 ^ 31 by decide), if_false, cx, cb]
                by_cases c4 : far v bay x * far v bay x = 1
                · rw [if_pos c4]
                  by_cases c5 : v.1 8 x = 4
                  · rw [if_pos c5]; exact b113 (fun q => ((hA.mp q.2).2 c4).1 c5)
                  · rw [if_neg c5]
                    by_cases c6 : v.1 8 b = 4
                    · rw [if_pos c6]; exact b113 (fun q => ((hA.mp q.2).2 c4).2 c6)
                    · rw [if_neg c6]; exact b109 f (hA.mpr ⟨q0, fun _ => ⟨c5, c6⟩⟩)
                · rw [if_neg c4]; exact b109 f (hA.mpr ⟨q0, fun q => absurd q c4⟩)
              rw [show v.1 11 x / 12 - nI bay = far v bay x from rfl]
              by_cases c4 : far v bay x = 0
              · rw [if_pos c4]
                by_cases c5 : v.1 8 x = v.1 8 b
                · rw [if_pos c5]; exact b79 (fun _ => c5)
                · rw [if_neg c5]; exact b113 (fun q => c5 ((hA.mp q.2).1 c4))
              · rw [if_neg c4]; exact b79 (fun q => absurd q c4)
        · rw [if_neg c3]; exact yes (Or.inr (Or.inl c3))
