/-! MOMENTS ANEW: a sum over boxes is the sum over slots -/
def FL (a s : Nat) : Int32 := if a = 6 then nI (s / 4 % 3) - 1 else pX6_leverOf (nI (s / 12)) (nI a)
def WN (v : St) (a n s : Nat) : Int32 := if v.1 0 s = -1 then 0 else if (v.1 0 s).toNatClampNeg < n then v.1 6 (v.1 0 s).toNatClampNeg * FL a s else 0
theorem wn_keep {u v : St} {N O P a n : Nat} (h : RelN N O P u v) (hn : n < N) (hw : ¬ v.1 10 n = 1) : sumN 72 (WN v a (n + 1)) = sumN 72 (WN v a n) := by
  have hN := h.1.1
  obtain ⟨-, -, -, -, h5, -⟩ := id h
  refine sumN_congr fun s hs => ?_
  unfold WN
  rcases (h5.1 s hs).2 with q | ⟨b, hb, q, q2, -⟩
  · rw [if_pos q, if_pos q]
  · have hne : b ≠ n := fun e => hw (by rw [← e]; exact q2)
    rw [q, if_neg (nI_m1 (by omega)), if_neg (nI_m1 (by omega)), nI_clamp (by omega)]
    by_cases c : b < n
    · rw [if_pos c, if_pos (by omega)]
    · rw [if_neg c, if_neg (by omega)]
theorem wn_more {u v : St} {N O P a n s : Nat} (h : RelN N O P u v) (hn : n < N) (hs : s < 72) (hat : v.1 0 s = nI n) (hp : v.1 11 n = nI s) : sumN 72 (WN v a (n + 1)) = sumN 72 (WN v a n) + v.1 6 n * FL a s := by
  have hN := h.1.1
  obtain ⟨-, -, -, -, h5, -⟩ := id h
  rw [sumN_one (f := WN v a n) (g := WN v a (n + 1)) hs]
  · have r1 : WN v a n s = 0 := by
      unfold WN
      rw [hat, if_neg (nI_m1 (by omega)), nI_clamp (by omega), if_neg (by omega)]
    have r2 : WN v a (n + 1) s = v.1 6 n * FL a s := by
      unfold WN
      rw [hat, if_neg (nI_m1 (by omega)), nI_clamp (by omega), if_pos (by omega)]
    rw [r1, r2]; grind
  · intro k hk hne
    unfold WN
    rcases (h5.1 k hk).2 with q | ⟨b, hb, q, q2, q3⟩
    · rw [if_pos q, if_pos q]
    · have hbn : b ≠ n := fun e => by
        subst e
        exact hne (nI_inj (by omega) (by omega) (q3.symm.trans hp))
      rw [q, if_neg (nI_m1 (by omega)), if_neg (nI_m1 (by omega)), nI_clamp (by omega)]
      by_cases c : b < n
      · rw [if_pos c, if_pos (by omega)]
      · rw [if_neg c, if_neg (by omega)]
theorem wn_all {u v : St} {N O P a : Nat} (h : RelN N O P u v) : sumN 72 (WN v a N) = sumN 72 (fun s => wt (v.1 6) (v.1 0 s) * FL a s) := by
  have hN := h.1.1
  refine sumN_congr fun s hs => ?_
  unfold WN wt
  rcases rel_slots h s hs with q | ⟨b, hb, q⟩
  · rw [if_pos q, if_pos q]; grind
  · rw [q, if_neg (nI_m1 (by omega)), if_neg (nI_m1 (by omega)), nI_clamp (by omega), if_pos hb]
theorem sumN_zero : ∀ n, sumN n (fun _ => 0) = 0 := by
  intro n
  induction n with
  | zero => rfl
  | succ n ih => show sumN n (fun _ => 0) + 0 = 0; rw [ih]; rfl
theorem wn_0 {v : St} {a : Nat} : sumN 72 (WN v a 0) = 0 := by
  have e : sumN 72 (WN v a 0) = sumN 72 (fun _ => 0) := sumN_congr fun s hs => by
    unfold WN
    split
    · rfl
    · rfl
  exact e.trans (sumN_zero 72)
theorem anew_loop {u v : St} {N O P a : Nat} (h : RelN N O P u v) (ha : a ≤ 6) : ∀ n b, b ≤ N → N < b + n → pX6_momentAnew_b24 n (nI a) (sumN 72 (WN v a b)) (nI b) u = if a = 6 then some (0, sumN 72 (WN v a N), u) else pX6_momentAnew_b123 100 (nI a) (sumN 72 (WN v a N)) 0 u := by
  have hN := h.1.1
  have e6 : u.2 6 = nI N := h.1.2.2.2.1
  have e66 : (6 : Int32) = nI 6 := rfl
  intro n
  induction n with
  | zero => intro b q1 q2; omega
  | succ n ih =>
    intro b q1 q2
    rcases Nat.lt_or_ge b N with hb | hb
    · have hb6 : b < 60 := by omega
      obtain ⟨-, k2, -, -, -, k6, -⟩ := h.2.1 b hb
      rw [← ih (b + 1) hb (by omega), pX6_momentAnew_b24_s, e6, if_neg (nI_ge hb (by omega)), rg_n (show b < rl 5 from hb6), k6]
      by_cases ew : v.1 10 b = 1
      · obtain ⟨s, hs, z1, z2, z3⟩ := shipslot h hb ew
        rw [if_pos ew, rg_n (show b < rl 6 from hb6), z1, (sN_facts s hs).2.2.1, (sN_facts s hs).2.2.2.1]
        unfold pX6_momentAnew_b88 pX6_momentAnew_b107
        rw [rg_n (show b < rl 1 from hb6), k2, nI_1, wn_more h hb hs z3 z2]
        unfold FL
        by_cases e : a = 6
        · rw [if_pos (by rw [e]; rfl), if_pos e]
        · rw [if_neg (fun q => e (nI_inj (by omega) (by decide) (q.trans e66))), if_neg e]
      · rw [if_neg ew]
        unfold pX6_momentAnew_b107
        rw [nI_1, wn_keep h hb ew]
    · obtain rfl : b = N := by omega
      rw [pX6_momentAnew_b24_s, e6, if_pos (nI_le (Nat.le_refl _) (by omega))]
      by_cases e : a = 6
      · rw [if_pos (by rw [e]; rfl), if_pos e]
      · rw [if_neg (fun q => e (nI_inj (by omega) (by decide) (q.trans e66))), if_neg e]
theorem anew_water {u : St} {a : Nat} {t : Int32} : ∀ n i, i ≤ 6 → 6 < i + n → pX6_momentAnew_b123 n (nI a) (t + sumN i (fun i => u.1 11 i * pX6_leverOf (nI i) (nI a))) (nI i) u = some (0, t + sumN 6 (fun i => u.1 11 i * pX6_leverOf (nI i) (nI a)), u) := by
  intro n
  induction n with
  | zero => intro i q1 q2; omega
  | succ n ih =>
    intro i q1 q2
    rcases Nat.lt_or_ge i 6 with hi | hi
    · rw [← ih (i + 1) hi (by omega), pX6_momentAnew_b123_s, if_neg (show ¬ (6 : Int32) ≤ nI i from nI_ge hi (by decide)), rg_n (show i < rl 11 from hi), nI_1]
      show pX6_momentAnew_b123 n (nI a) (t + sumN i _ + _) _ _ = pX6_momentAnew_b123 n (nI a) (t + (sumN i _ + _)) _ _
      rw [Int32.add_assoc]
    · obtain rfl : i = 6 := by omega
      rw [pX6_momentAnew_b123_s, if_pos (show (6 : Int32) ≤ nI 6 by decide)]
theorem sumN_mulr {n : Nat} {f : Nat → Int32} {c : Int32} : sumN n (fun k => f k * c) = sumN n f * c := by
  induction n with
  | zero => show (0 : Int32) = 0 * c; grind
  | succ n ih => show sumN n (fun k => f k * c) + f n * c = (sumN n f + f n) * c; rw [ih]; grind
theorem sumN_addf {n : Nat} {f g : Nat → Int32} : sumN n f + sumN n g = sumN n (fun k => f k + g k) := by
  induction n with
  | zero => show (0 : Int32) + 0 = 0; grind
  | succ n ih => show (sumN n f + f n) + (sumN n g + g n) = sumN n (fun k => f k + g k) + (f n + g n); rw [← ih]; grind
theorem y12 : ∀ y, y < 6 → ∀ k, k < 12 → (12 * y + k) / 12 = y := by omega
theorem anew_kept {u v : St} {N O P a : Nat} (h : RelN N O P u v) (ha : a ≤ 6) : ∃ r, pX6_momentAnew_b24 100 (nI a) 0 0 u = some (0, r, u) ∧ r = mK u a := by
  have hN := h.1.1
  obtain ⟨l1, l2⟩ := rel_load h
  obtain ⟨-, -, -, -, -, -, -, -, hw, -⟩ := id h
  have q := anew_loop h ha 100 0 (Nat.zero_le _) (by omega)
  rw [wn_0, wn_all h] at q
  by_cases e : a = 6
  · refine ⟨mK u a, ?_, rfl⟩
    refine q.trans ?_
    rw [if_pos e]
    unfold mK
    rw [if_pos e, l2, ← heel_bays]
    have r0 : sumN 72 (fun s => wt (v.1 6) (v.1 0 s) * FL a s) = sumN 72 (fun s => wt (v.1 6) (v.1 0 s) * (nI (s / 4 % 3) - 1)) := sumN_congr fun s hs => by
      unfold FL; rw [if_pos e]
    rw [r0]
  · refine ⟨mK u a, ?_, rfl⟩
    refine q.trans ?_
    rw [if_neg e]
    have q2 := anew_water (u := u) (a := a) (t := sumN 72 (fun s => wt (v.1 6) (v.1 0 s) * FL a s)) 100 0 (by omega) (by omega)
    rw [show sumN 72 (fun s => wt (v.1 6) (v.1 0 s) * FL a s) + sumN 0 (fun i => u.1 11 i * pX6_leverOf (nI i) (nI a)) = sumN 72 (fun s => wt (v.1 6) (v.1 0 s) * FL a s) from Int32.add_zero _] at q2
    refine q2.trans ?_
    have r : sumN 72 (fun s => wt (v.1 6) (v.1 0 s) * FL a s) + sumN 6 (fun i => u.1 11 i * pX6_leverOf (nI i) (nI a)) = mK u a := by
      unfold mK
      rw [if_neg e, show (72 : Nat) = 12 * 6 from rfl, sumN_12, sumN_addf]
      refine sumN_congr fun y hy => ?_
      rw [l1 y hy, (hw y hy).1]
      unfold LB
      have r1 : sumN 12 (fun j => wt (v.1 6) (v.1 0 (12 * y + j)) * FL a (12 * y + j)) = sumN 12 (fun j => wt (v.1 6) (v.1 0 (12 * y + j))) * pX6_leverOf (nI y) (nI a) := by
        rw [← sumN_mulr]
        refine sumN_congr fun k hk => ?_
        unfold FL
        rw [if_neg e, y12 y hy k hk]
      show sumN 12 (fun j => wt (v.1 6) (v.1 0 (12 * y + j)) * FL a (12 * y + j)) + _ = _
      rw [r1]; grind
    rw [r]
theorem sx_momentAnew : Sx_momentAnew Rel := by
  rintro u v ⟨N, O, P, h⟩ a1
  rcases inL a1 0 6 0 6 rfl rfl (by decide) (by decide) with z | ⟨a, g1, g2, rfl, z⟩
  · refine ⟨2, 0, u, 0, sS v 0 1, ?_, Or.inr rfl, ?_, rfl, fun h => absurd h (by decide), N, O, P, h⟩
    · unfold pX6_momentAnew; rw [isWithin_eq, if_pos z]
    · unfold pX7_momentAnew pX7_moment pX7_moment_b16; rw [if_pos z, t1]; rfl
  · have h' : RelN N O P u (sS v 0 0) := h
    obtain ⟨g, q⟩ := mo_both h' g2
    obtain ⟨r, w, rfl⟩ := anew_kept h g2
    refine ⟨0, mK u a, u, mK u a, sA (sS v 0 0) 21 g, ?_, Or.inl rfl, ?_, rfl, fun _ => rfl, N, O, P, h⟩
    · unfold pX6_momentAnew; rw [isWithin_eq, if_neg (by rw [z]; decide)]; exact w
    · unfold pX7_momentAnew pX7_moment pX7_moment_b16; rw [if_neg (by rw [z]; decide), t0, q]; rfl
