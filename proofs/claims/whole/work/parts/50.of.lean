/-! WHAT LIES ON A BOX; of, dig -/
theorem nI_sub {a b : Nat} (h : b ≤ a) : nI a - nI b = nI (a - b) := by
  have e : nI a = nI (a - b) + nI b := by rw [nI_add]; congr 1; omega
  rw [e]; grind
theorem c_over {u : St} {b t hh k : Nat} (hb : b < 60) (ht : t < 10) (hk : k < hh) (hh4 : hh ≤ 4) (e7 : u.1 7 t = nI hh) (ek : u.1 8 (4 * t + k) = nI b) (un : ∀ i, i < k → ¬ u.1 8 (4 * t + i) = nI b) : ∀ n x, x ≤ k → k < x + n → pX5_boxesOver_b12 n (nI b) (nI t) (nI hh) (nI x) u = some (nI (hh - 1 - k), u) := by
  intro n
  induction n with
  | zero => intro x q1 q2; omega
  | succ n ih =>
    intro x q1 q2
    have hx : x < hh := by omega
    have hix : 4 * t + x < 40 := by omega
    have bi : pX5_boxIn (nI t) (nI x) u = some (u.1 8 (4 * t + x), u) := by
      unfold pX5_boxIn
      rw [if_neg (nI_pos (by omega)), rg_n (show t < rl 7 from ht), e7, if_pos (nI_lt hx (by omega)), st_ix, rg_n (show 4 * t + x < rl 8 from hix)]
    rw [pX5_boxesOver_b12_s, if_neg (nI_ge hx (by omega)), bi, bnd_some]
    rcases Nat.lt_or_ge x k with c | c
    · rw [if_neg (un x c), nI_1]; exact ih (x + 1) c (by omega)
    · obtain rfl : x = k := by omega
      rw [if_pos ek, nI_sub1 (by omega), nI_sub (by omega)]
theorem m_over {v : St} {b t hh k : Nat} (hb : b < 60) (ht : t < 10) (hk : k < hh) (hh4 : hh ≤ 4) (ep : v.1 11 b = nI t) (ek : v.1 13 (4 * t + k) = nI b) (un : ∀ i, k < i → i < hh → ¬ v.1 13 (4 * t + i) = nI b) : ∀ n x, k ≤ x → x < hh → x - k < n → pX7_liesOn_b69 n (nI b) (nI (hh - 1 - x)) (nI x) v = some (nI (hh - 1 - k), v) := by
  intro n
  induction n with
  | zero => intro x q1 q2 q3; omega
  | succ n ih =>
    intro x q1 q2 q3
    have hix : 4 * t + x < 40 := by omega
    have cb : (nI b).toNatClampNeg = b := nI_clamp (by omega)
    rw [pX7_liesOn_b69_s, ck hb (by decide), cb, ep, st_ix2, ck hix (by decide), nI_clamp (show 4 * t + x < 2 ^ 31 by omega)]
    rcases Nat.lt_or_ge k x with c | c
    · rw [if_neg (un x c q2), nI_1, show nI x + -1 = nI (x - 1) from by rw [← nI_sub1 (by omega)]; exact (Int32.sub_eq_add_neg _ _).symm, show hh - 1 - x + 1 = hh - 1 - (x - 1) by omega]
      exact ih (x - 1) (by omega) (by omega) (by omega)
    · obtain rfl : x = k := by omega
      rw [if_pos ek]; rfl
theorem on_both {u v : St} {N O P b : Nat} (h : RelN N O P u v) (hb : b < N) : ∃ c, pX6_boxesOn (nI b) u = some (nI c, u) ∧ pX7_liesOn (nI b) v = some (nI c, v) := by
  obtain ⟨h1, h2, h3, h4, h5, -⟩ := id h
  have hN := h1.1
  have hb6 : b < 60 := by omega
  have cb : (nI b).toNatClampNeg = b := nI_clamp (by omega)
  have K60 : 60 < 2 ^ 31 := by decide
  obtain ⟨-, -, -, -, -, k6, -⟩ := h2 b hb
  unfold pX6_boxesOn pX7_liesOn
  rw [rg_n (show b < rl 5 from hb6), k6, ck hb6 K60, ck hb6 K60, ck hb6 K60, ck hb6 K60, ck hb6 K60, cb]
  rcases h3 b hb with ⟨w0, t, ht, e1, e2⟩ | ⟨w1, s, hs, e1, e2⟩ | ⟨w2, -⟩
  · obtain ⟨hh, hh4, y1, y2, y3, y4, y5⟩ := h4 t ht
    obtain ⟨k, hk, ek⟩ := y5 b hb w0 e2
    refine ⟨hh - 1 - k, ?_, ?_⟩
    · rw [if_pos w0, rg_n (show b < rl 6 from hb6), e1]
      unfold pX5_boxesOver
      rw [rg_n (show t < rl 7 from ht), y1]
      rw [show pX5_boxesOver_b12 100 (nI b) (nI t) (nI hh) 0 u = _ from c_over hb6 ht hk hh4 y1 ((y3 k hk).1.trans ek) (fun i hi z => by
        have q := y4 i k (by omega) hk (((y3 i (by omega)).1.symm.trans z).trans ek.symm)
        omega) 100 0 (by omega) (by omega)]; rfl
    · rw [if_neg (show ¬ v.1 10 b = 1 by rw [w0]; decide), if_pos w0, e2, ck ht (by decide), nI_clamp (show t < 2 ^ 31 by omega), y2, nI_sub1 (by omega)]
      have q := m_over (v := v) hb6 ht hk hh4 e2 ek (fun i hi1 hi2 z => by
        have q := y4 i k hi2 hk (z.trans ek.symm)
        omega) 100 (hh - 1) (by omega) (by omega) (by omega)
      rw [show hh - 1 - (hh - 1) = 0 by omega] at q
      exact q
  · have hf := (sN_facts s hs)
    rw [if_neg (show ¬ v.1 10 b = 0 by rw [w1]; decide), if_pos w1, rg_n (show b < rl 6 from hb6), e1, c_boxOver h hs, bnd_some, if_pos w1, e2, r2 hs]
    rcases Nat.lt_or_ge (s % 2) 1 with c | c
    · have c0 : s % 2 = 0 := by omega
      have hs1 : s + 1 < 72 := by omega
      rw [if_neg (show ¬ s % 2 = 1 by omega), c0, if_pos (show nI 0 = 0 from rfl), nI_1, ck hs1 (by decide), nI_clamp (show s + 1 < 2 ^ 31 by omega)]
      by_cases d : v.1 0 (s + 1) = -1
      · rw [if_pos d, if_pos d]; exact ⟨0, rfl, rfl⟩
      · rw [if_neg d, if_neg d]; exact ⟨1, rfl, rfl⟩
    · have c0 : s % 2 = 1 := by omega
      rw [if_pos c0, c0, if_neg (show ¬ nI 1 = 0 by decide), if_pos rfl]; exact ⟨0, rfl, rfl⟩
  · refine ⟨0, ?_, ?_⟩
    · rw [if_neg (show ¬ v.1 10 b = 0 by rw [w2]; decide), if_neg (show ¬ v.1 10 b = 1 by rw [w2]; decide)]; rfl
    · rw [if_neg (show ¬ v.1 10 b = 1 by rw [w2]; decide), if_neg (show ¬ v.1 10 b = 0 by rw [w2]; decide)]; rfl
theorem sx_of : Sx_of Rel := by
  rintro u v ⟨N, O, P, h⟩ a1 a2
  have bad : ∀ x : Int32, Rel u (sS v 0 x) := fun x => ⟨N, O, P, h⟩
  rcases box_cases h.1.1 h.1.2.2.2.1 h.1.2.2.2.2.1 a1 with ⟨h6, h7⟩ | ⟨b, hb, rfl, h6, h7⟩
  · refine ⟨1, 0, u, 0, sS v 0 1, ?_, Or.inr (Or.inl rfl), ?_, rfl, fun h => absurd h (by decide), bad 1⟩
    · unfold pX6_of; rw [h6]; rfl
    · unfold pX7_of pX7_of_b28; rw [h7, bnd_some, if_pos rfl, t1]
  rcases inL a2 0 6 0 6 rfl rfl (by decide) (by decide) with z | ⟨w, -, g2, rfl, z⟩
  · refine ⟨2, 0, u, 0, sS v 0 2, ?_, Or.inr (Or.inr rfl), ?_, rfl, fun h => absurd h (by decide), bad 2⟩
    · unfold pX6_of; rw [h6, bnd_some, if_neg one0, isWithin_eq, if_pos z]
    · unfold pX7_of pX7_of_b28; rw [h7, bnd_some, if_neg one0, if_pos z, t2]
  have h' : RelN N O P u (sS v 0 0) := h
  have hN := h.1.1
  have hb6 : b < 60 := by omega
  have cb : (nI b).toNatClampNeg = b := nI_clamp (by omega)
  have K60 : 60 < 2 ^ 31 := by decide
  obtain ⟨k1, k2, k3, k4, k5, k6, -⟩ := h.2.1 b hb
  obtain ⟨c, o6, o7⟩ := on_both h' hb
  have zw : ¬ pX7_in (nI w) 0 6 = 0 := by rw [z]; decide
  suffices q : ∃ r, pX6_of (nI b) (nI w) u = some (0, r, u) ∧ pX7_of (nI b) (nI w) v = some (r, sS v 0 0) by
    obtain ⟨r, q1, q2⟩ := q
    exact ⟨0, r, u, r, sS v 0 0, q1, Or.inl rfl, q2, rfl, fun _ => rfl, N, O, P, h⟩
  unfold pX6_of pX7_of pX7_of_b28
  rw [h6, bnd_some, if_neg one0, isWithin_eq, if_neg zw, h7, bnd_some, if_neg one0, if_neg zw, t0]
  have cw : w = 0 ∨ w = 1 ∨ w = 2 ∨ w = 3 ∨ w = 4 ∨ w = 5 ∨ w = 6 := by omega
  rcases cw with rfl | rfl | rfl | rfl | rfl | rfl | rfl
  · rw [if_pos (show nI 0 = 0 from rfl), if_pos (show nI 0 = 0 from rfl), rg_n (show b < rl 0 from hb6), ck hb6 K60, cb]
    exact ⟨_, rfl, by rw [k1]; rfl⟩
  · rw [if_neg (show ¬ nI 1 = 0 by decide), if_pos (show nI 1 = 1 from rfl), if_neg (show ¬ nI 1 = 0 by decide), if_pos (show nI 1 = 1 from rfl), rg_n (show b < rl 2 from hb6), ck hb6 K60, cb]
    exact ⟨_, rfl, by rw [k3]; rfl⟩
  · rw [if_neg (show ¬ nI 2 = 0 by decide), if_neg (show ¬ nI 2 = 1 by decide), if_pos (show nI 2 = 2 from rfl), if_neg (show ¬ nI 2 = 0 by decide), if_neg (show ¬ nI 2 = 1 by decide), if_pos (show nI 2 = 2 from rfl), rg_n (show b < rl 3 from hb6), ck hb6 K60, cb]
    exact ⟨_, rfl, by rw [k4]; rfl⟩
  · rw [if_neg (show ¬ nI 3 = 0 by decide), if_neg (show ¬ nI 3 = 1 by decide), if_neg (show ¬ nI 3 = 2 by decide), if_pos (show nI 3 = 3 from rfl), if_neg (show ¬ nI 3 = 0 by decide), if_neg (show ¬ nI 3 = 1 by decide), if_neg (show ¬ nI 3 = 2 by decide), if_pos (show nI 3 = 3 from rfl), c_isHeld hb6, m_isHeld hb6, bnd_some, bnd_some, k5, show (sS v 0 0).1 9 b = v.1 9 b from rfl]
    by_cases d : v.1 9 b = 7
    · rw [if_pos d, if_pos rfl, if_pos rfl]; exact ⟨0, rfl, rfl⟩
    · rw [if_neg d, if_neg one0, if_neg one0]; exact ⟨1, rfl, rfl⟩
  · rw [if_neg (show ¬ nI 4 = 0 by decide), if_neg (show ¬ nI 4 = 1 by decide), if_neg (show ¬ nI 4 = 2 by decide), if_neg (show ¬ nI 4 = 3 by decide), if_pos (show nI 4 = 4 from rfl), if_neg (show ¬ nI 4 = 0 by decide), if_neg (show ¬ nI 4 = 1 by decide), if_neg (show ¬ nI 4 = 2 by decide), if_neg (show ¬ nI 4 = 3 by decide), if_pos (show nI 4 = 4 from rfl), rg_n (show b < rl 5 from hb6), ck hb6 K60, cb]
    exact ⟨_, rfl, by rw [k6]; rfl⟩
  · rw [if_neg (show ¬ nI 5 = 0 by decide), if_neg (show ¬ nI 5 = 1 by decide), if_neg (show ¬ nI 5 = 2 by decide), if_neg (show ¬ nI 5 = 3 by decide), if_neg (show ¬ nI 5 = 4 by decide), if_pos (show nI 5 = 5 from rfl), if_neg (show ¬ nI 5 = 0 by decide), if_neg (show ¬ nI 5 = 1 by decide), if_neg (show ¬ nI 5 = 2 by decide), if_neg (show ¬ nI 5 = 3 by decide), if_neg (show ¬ nI 5 = 4 by decide), if_pos (show nI 5 = 5 from rfl), rg_n (show b < rl 6 from hb6)]
    rw [ck hb6 K60, ck hb6 K60, ck hb6 K60, ck hb6 K60, cb, show (sS v 0 0).1 10 b = v.1 10 b from rfl, show (sS v 0 0).1 11 b = v.1 11 b from rfl]
    rcases h.2.2.1 b hb with ⟨w0, t, ht, e1, e2⟩ | ⟨w1, s, hs, e1, e2⟩ | ⟨w2, e1⟩
    · rw [if_neg (show ¬ v.1 10 b = 2 by rw [w0]; decide), if_pos w0, e1, e2]; exact ⟨_, rfl, rfl⟩
    · rw [if_neg (show ¬ v.1 10 b = 2 by rw [w1]; decide), if_neg (show ¬ v.1 10 b = 0 by rw [w1]; decide), e1, e2, (sN_facts s hs).2.2.2.2.2.2.2.1]; exact ⟨_, rfl, rfl⟩
    · rw [if_pos w2, e1]; exact ⟨_, rfl, rfl⟩
  · rw [if_neg (show ¬ nI 6 = 0 by decide), if_neg (show ¬ nI 6 = 1 by decide), if_neg (show ¬ nI 6 = 2 by decide), if_neg (show ¬ nI 6 = 3 by decide), if_neg (show ¬ nI 6 = 4 by decide), if_neg (show ¬ nI 6 = 5 by decide), if_neg (show ¬ nI 6 = 0 by decide), if_neg (show ¬ nI 6 = 1 by decide), if_neg (show ¬ nI 6 = 2 by decide), if_neg (show ¬ nI 6 = 3 by decide), if_neg (show ¬ nI 6 = 4 by decide), if_neg (show ¬ nI 6 = 5 by decide), o6, o7]
    exact ⟨_, rfl, rfl⟩
noncomputable def dT (v : St) (y k : Nat) : Nat := Nat.rec 0 (fun k s => s + (if k % 4 < 2 then 0 else eS v (12 * y + k))) k
theorem dT_12 {v : St} {y : Nat} : dT v y 12 = onTop v y := by
  show 0 + 0 + 0 + eS v (12 * y + 2) + eS v (12 * y + 3) + 0 + 0 + eS v (12 * y + 6) + eS v (12 * y + 7) + 0 + 0 + eS v (12 * y + 10) + eS v (12 * y + 11) = _
  unfold onTop; omega
theorem m_dig {v : St} {b s y : Nat} (hb : b < 60) (hs : s < 72) (hy : y < 6) (ep : v.1 11 b = nI s) (hu : s % 4 < 2) (x : Nat) : ∀ n k, k ≤ 12 → 12 < k + n → pX7_dig_b59 n (nI b) (nI (x + dT v y k)) (nI y) (nI k) v = some (nI (x + dT v y 12), v) := by
  intro n
  induction n with
  | zero => intro k q1 q2; omega
  | succ n ih =>
    intro k q1 q2
    have cb : (nI b).toNatClampNeg = b := nI_clamp (by omega)
    rcases Nat.lt_or_ge k 12 with hk | hk
    · have hix : 12 * y + k < 72 := by omega
      have st : dT v y (k + 1) = dT v y k + (if k % 4 < 2 then 0 else eS v (12 * y + k)) := rfl
      rw [← ih (k + 1) hk (by omega), pX7_dig_b59_s, if_neg (show ¬ (12 : Int32) ≤ nI k from nI_ge hk (by decide)), ck hb (by decide), cb, ep, r4 hs, if_neg (show ¬ (2 : Int32) ≤ nI (s % 4) from nI_ge hu (by decide)), r4 (by omega)]
      unfold pX7_dig_b107 pX7_dig_b108
      by_cases c : k % 4 < 2
      · rw [if_pos (show nI (k % 4) ≤ 1 from nI_le (show k % 4 ≤ 1 by omega) (by decide)), nI_1, st, if_pos c]
        congr 1; exact Int32.add_zero _
      · rw [if_neg (show ¬ nI (k % 4) ≤ 1 from nI_ge (show 1 < k % 4 by omega) (by omega)), st, if_neg c]
        rw [show (12 : Int32) * nI y + nI k = nI (12 * y + k) by rw [show (12 : Int32) = nI 12 from rfl, pk_mul, nI_add], ck hix (by decide), nI_clamp (by omega), nI_1]
        by_cases d : v.1 0 (12 * y + k) = -1
        · rw [if_pos d, eS_0 d]; congr 1; exact Int32.add_zero _
        · rw [if_neg d, eS_1 d, nI_1]; rfl
    · obtain rfl : k = 12 := by omega
      rw [pX7_dig_b59_s, if_pos (show (12 : Int32) ≤ nI 12 by decide)]; rfl
theorem sx_dig : Sx_dig Rel := by
  rintro u v ⟨N, O, P, h⟩ a1
  have bad : ∀ x : Int32, Rel u (sS v 0 x) := fun x => ⟨N, O, P, h⟩
  rcases box_cases h.1.1 h.1.2.2.2.1 h.1.2.2.2.2.1 a1 with ⟨h6, h7⟩ | ⟨b, hb, rfl, h6, h7⟩
  · refine ⟨1, 0, u, 0, sS v 0 1, ?_, Or.inr (Or.inl rfl), ?_, rfl, fun h => absurd h (by decide), bad 1⟩
    · unfold pX6_dig; rw [h6]; rfl
    · unfold pX7_dig pX7_dig_b28; rw [h7, bnd_some, if_pos rfl, t1]
  have h' : RelN N O P u (sS v 0 0) := h
  have hN := h.1.1
  have hb6 : b < 60 := by omega
  have cb : (nI b).toNatClampNeg = b := nI_clamp (by omega)
  have K60 : 60 < 2 ^ 31 := by decide
  obtain ⟨k1, k2, k3, k4, k5, k6, -⟩ := h.2.1 b hb
  by_cases ew : v.1 10 b = 1
  · obtain ⟨c, o6, o7⟩ := on_both h' hb
    obtain ⟨s, hs, e1, e2, -⟩ := shipslot h hb ew
    have hy : s / 12 < 6 := by omega
    suffices q : ∃ r, pX6_dig (nI b) u = some (0, r, u) ∧ pX7_dig (nI b) v = some (r, sS v 0 0) by
      obtain ⟨r, q1, q2⟩ := q
      exact ⟨0, r, u, r, sS v 0 0, q1, Or.inl rfl, q2, rfl, fun _ => rfl, N, O, P, h⟩
    unfold pX6_dig pX7_dig pX7_dig_b28
    rw [h6, bnd_some, if_neg one0, rg_n (show b < rl 5 from hb6), k6, if_pos ew, o6, bnd_some, rg_n (show b < rl 6 from hb6), e1, (sN_facts s hs).2.2.2.2.2.1, (sN_facts s hs).2.2.1]
    rw [h7, bnd_some, if_neg one0, ck hb6 K60, cb, if_pos ew, t0, o7, bnd_some, ck2 hb6 K60, show (sS v 0 0).1 11 b = nI s from e2, p12 hs]
    by_cases d : s % 4 < 2
    · have q := m_dig (v := sS v 0 0) hb6 hs hy e2 d c 100 0 (by omega) (by omega)
      rw [if_pos d, if_neg one0, c_onTop h' hy, bnd_some, nI_add]
      refine ⟨_, rfl, ?_⟩
      rw [dT_12] at q
      exact q
    · rw [if_neg d, if_pos rfl]
      refine ⟨_, rfl, ?_⟩
      rw [pX7_dig_b59_s, if_neg (show ¬ (12 : Int32) ≤ 0 by decide), ck hb6 K60, cb, show (sS v 0 0).1 11 b = nI s from e2, r4 hs, if_pos (show (2 : Int32) ≤ nI (s % 4) from nI_le (show 2 ≤ s % 4 by omega) (by omega))]; rfl
  · refine ⟨3, 0, u, 0, sS v 0 2, ?_, Or.inr (Or.inr rfl), ?_, rfl, fun h => absurd h (by decide), bad 2⟩
    · unfold pX6_dig; rw [h6, bnd_some, if_neg one0, rg_n (show b < rl 5 from hb6), k6, if_neg ew]
    · unfold pX7_dig pX7_dig_b28; rw [h7, bnd_some, if_neg one0, ck hb6 K60, cb, if_neg ew, t2]
