/-! THE START: both sides are alike -/
theorem uI_at {k i : Nat} (h : i < rl k) : uI.1 k i = rin k := if_pos h
theorem init_slots : ∀ n x (f : Nat → Int32), x ≤ 72 → 72 < x + n → (∀ i, i < x → f i = -1) → ∃ g : Nat → Int32, pX7_init_b199 n (nI x) (sA uM0 0 f) = pX7_init_b220 100 0 (sA uM0 0 g) ∧ ∀ i, i < 72 → g i = -1 := by
  intro n
  induction n with
  | zero => intro x f q1 q2; omega
  | succ n ih =>
    intro x f q1 q2 hf
    rcases Nat.lt_or_ge x 72 with hx | hx
    · obtain ⟨g, z1, z2⟩ := ih (x + 1) (upd f x (-1)) hx (by omega) (fun i hi => by
        by_cases e : i = x
        · subst e; exact pk_us
        · rw [pk_un e]; exact hf i (by omega))
      refine ⟨g, ?_, z2⟩
      rw [pX7_init_b199_s, if_neg (show ¬ (72 : Int32) ≤ nI x from nI_ge hx (by decide)), ck hx (by decide), nI_clamp (by omega), nI_1, sA_uu]
      exact z1
    · obtain rfl : x = 72 := by omega
      refine ⟨f, ?_, hf⟩
      rw [pX7_init_b199_s, if_pos (show (72 : Int32) ≤ nI 72 by decide)]
theorem init_cranes (v : St) : pX7_init_b220 100 0 v = some (0, sA (sA (sA (sA v 16 (upd (v.1 16) 0 5)) 17 (upd (v.1 17) 0 2)) 16 (upd (upd (v.1 16) 0 5) 1 5)) 17 (upd (upd (v.1 17) 0 2) 1 2)) := by
  have k2 : 2 < 2 ^ 31 := by decide
  rw [show (0 : Int32) = nI 0 from rfl, pX7_init_b220_s, if_neg (show ¬ (2 : Int32) ≤ nI 0 by decide), ck (show 0 < 2 by decide) k2, ck (show 0 < 2 by decide) k2, nI_1]
  rw [pX7_init_b220_s, if_neg (show ¬ (2 : Int32) ≤ nI (0 + 1) by decide), ck (show 0 + 1 < 2 by decide) k2, ck (show 0 + 1 < 2 by decide) k2, nI_1]
  rw [pX7_init_b220_s, if_pos (show (2 : Int32) ≤ nI (0 + 1 + 1) by decide)]
  rfl
theorem init_rel : ∃ r uM1, pX7_init uM0 = some (r, uM1) ∧ Rel uI uM1 := by
  obtain ⟨g, z1, z2⟩ := init_slots 100 0 (uM0.1 0) (by omega) (by omega) (fun i hi => absurd hi (by omega))
  rw [sA_self] at z1
  refine ⟨_, _, z1.trans (init_cranes _), 0, 0, 0, ?_⟩
  refine ⟨⟨by omega, by omega, by omega, rfl, rfl, rfl, rfl, rfl, rfl, rfl, rfl, rfl, rfl, rfl, by decide, by decide, by decide, 0, by omega, rfl⟩, fun b hb => absurd hb (by omega), fun b hb => absurd hb (by omega), ?_, ⟨?_, fun b hb => absurd hb (by omega)⟩, ?_, ?_, ?_, ?_, ⟨?_, ?_⟩, ?_, ?_, fun o ho => absurd ho (by omega), ?_, ?_⟩
  · intro t ht
    exact ⟨0, by omega, uI_at (k := 7) ht, rfl, fun k hk => absurd hk (by omega), fun i k hi => absurd hi (by omega), fun b hb => absurd hb (by omega)⟩
  · intro s hs
    exact ⟨(uI_at (k := 13) hs).trans (z2 s hs).symm, Or.inl (z2 s hs)⟩
  · exact fun i hi => ⟨uI_at (k := 14) hi, Or.inl rfl⟩
  · exact fun i hi => ⟨uI_at (k := 9) hi, Or.inl rfl⟩
  · exact fun i hi => uI_at (k := 10) hi
  · exact fun i hi => ⟨uI_at (k := 11) hi, 0, by omega, rfl⟩
  · intro i hi
    rw [uI_at (k := 12) hi]
    have e : sumN 12 (fun k => wt (fun _ => (0 : Int32)) (g (12 * i + k))) = 0 := (sumN_congr fun k hk => by rw [z2 _ (show 12 * i + k < 72 by omega), wt_m1]).trans (sumN_zero 12)
    show (0 : Int32) = 0 + sumN 12 (fun k => wt (fun _ => (0 : Int32)) (g (12 * i + k)))
    rw [e]; rfl
  · have e : sumN 72 (fun s => wt (fun _ => (0 : Int32)) (g s) * (nI (s / 4 % 3) - 1)) = 0 := (sumN_congr fun s hs => by rw [z2 s hs, wt_m1]; exact Int32.zero_mul).trans (sumN_zero 72)
    exact e.symm
  · exact fun i hi => ⟨uI_at (k := 21) hi, Or.inl rfl⟩
  · intro c hc
    refine ⟨uI_at (k := 18) hc, ?_, ?_, 2, by omega, ?_⟩
    · rw [uI_at (k := 19) hc]
      show (5 : Int32) = upd (upd _ 0 5) 1 5 c
      have cc : c = 0 ∨ c = 1 := by omega
      rcases cc with rfl | rfl <;> rfl
    · rw [uI_at (k := 20) hc]
      show (2 : Int32) = upd (upd _ 0 2) 1 2 c
      have cc : c = 0 ∨ c = 1 := by omega
      rcases cc with rfl | rfl <;> rfl
    · show upd (upd _ 0 2) 1 2 c = nI 2
      have cc : c = 0 ∨ c = 1 := by omega
      rcases cc with rfl | rfl <;> rfl
  · exact fun b _ hb => uI_at (k := 4) hb
  · exact fun s hs _ => Or.inl (z2 s hs)
theorem sall : SALL Rel := ⟨sx_plug, sx_bounds, sx_tank, sx_jam, sx_crane, sx_box, sx_paper, sx_skip, sx_order, sx_drop, sx_pass, sx_leave, sx_hour, sx_port, sx_cost, sx_of, sx_at, sx_inYard, sx_hatch, sx_moment, sx_momentAnew, sx_bars, sx_dig, sx_orders, sx_can, sx_may⟩
