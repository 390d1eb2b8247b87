/-! PORTS -/
theorem ck2 {i n : Nat} (h : i < n) (hn : n < 2 ^ 31) {α : Type} {a b : α} : (if (nI i < 0 ∨ n ≤ i) then a else b) = b := if_neg (by rw [ckS2 h hn]; exact id)
theorem next_all {f g : Nat → Int32} (e : ∀ i, i < 10 → f i = g i) : ∀ n x, x ≤ 9 → 9 < x + n → ∃ p, x ≤ p ∧ p ≤ 9 ∧ (∀ u : St, u.1 21 = f → pX6_portBehind_b4 n (nI x) u = some (nI p, u)) ∧ ∀ v : St, v.1 14 = g → pX7_nextPort_b4 n (nI x) v = some (nI p, v) := by
  intro n
  induction n with
  | zero => intro x q1 q2; omega
  | succ n ih =>
    intro x q1 q2
    rcases Nat.lt_or_ge x 9 with hx | hx
    · have hx10 : x < 10 := by omega
      have c9 : ¬ (9 : Int32) ≤ nI x := nI_ge (show x < 9 from hx) (by decide)
      by_cases q : g x = 0
      · refine ⟨x, Nat.le_refl _, q1, fun u eu => ?_, fun v ev => ?_⟩
        · rw [pX6_portBehind_b4_s, if_neg c9, rg_n (show x < rl 21 from hx10), eu, e x hx10, if_pos q]
        · rw [pX7_nextPort_b4_s, if_neg c9, ck hx10 (by decide), nI_clamp (by omega), ev, if_pos q]; rfl
      · obtain ⟨p, z1, z2, z3, z4⟩ := ih (x + 1) (by omega) (by omega)
        refine ⟨p, by omega, z2, fun u eu => ?_, fun v ev => ?_⟩
        · rw [pX6_portBehind_b4_s, if_neg c9, rg_n (show x < rl 21 from hx10), eu, e x hx10, if_neg q, nI_1]; exact z3 u eu
        · rw [pX7_nextPort_b4_s, if_neg c9, ck hx10 (by decide), nI_clamp (by omega), ev, if_neg q, nI_1]; exact z4 v ev
    · obtain rfl : x = 9 := by omega
      refine ⟨9, Nat.le_refl _, Nat.le_refl _, fun u eu => ?_, fun v ev => ?_⟩
      · rw [pX6_portBehind_b4_s, if_pos (show (9 : Int32) ≤ nI 9 by decide)]; rfl
      · rw [pX7_nextPort_b4_s, if_pos (show (9 : Int32) ≤ nI 9 by decide)]; rfl
theorem next_both {f g : Nat → Int32} (e : ∀ i, i < 10 → f i = g i) {a : Nat} (ha : a < 9) : ∃ p, a < p ∧ p ≤ 9 ∧ (∀ u : St, u.1 21 = f → pX6_portBehind (nI a) u = some (nI p, u)) ∧ ∀ v : St, v.1 14 = g → pX7_nextPort (nI a) v = some (nI p, v) := by
  obtain ⟨p, z1, z2, z3, z4⟩ := next_all e 100 (a + 1) (by omega) (by omega)
  refine ⟨p, z1, z2, fun u eu => ?_, fun v ev => ?_⟩
  · unfold pX6_portBehind; rw [nI_1]; exact z3 u eu
  · unfold pX7_nextPort; rw [nI_1]; exact z4 v ev
theorem bo_port {N b p : Nat} (hp : p ≤ 9) {t tr po ki pa wh t' tr' po' ki' pa' wh' : Nat → Int32} (h : RBo N t tr po ki pa wh t' tr' po' ki' pa' wh') : RBo N t tr (upd po b (nI p)) ki pa wh t' tr' (upd po' b (nI p)) ki' pa' wh' := by
  intro c hc
  obtain ⟨q1, q2, q3, q4, q5, q6, q7, q8, q9, q10⟩ := h c hc
  by_cases e : c = b
  · subst e; rw [pk_us, pk_us]; exact ⟨q1, q2, rfl, q4, q5, q6, q7, q8, ⟨p, hp, rfl⟩, q10⟩
  · rw [pk_un e, pk_un e]; exact ⟨q1, q2, q3, q4, q5, q6, q7, q8, q9, q10⟩
theorem skip_loop {N O P a p : Nat} (hp : p ≤ 9) {g : Nat → Int32} (hn : ∀ v : St, v.1 14 = g → pX7_nextPort (nI a) v = some (nI p, v)) : ∀ n x (u v : St) (cnt : Int32), RelN N O P u v → v.1 14 = g → x ≤ N → N < x + n →
    ∃ r u' v', pX6_skip_b58 n (nI a) (nI p) cnt (nI x) u = some (0, r, u') ∧ pX7_skip_b51 n (nI a) cnt (nI x) v = some (r, v') ∧ RelN N O P u' v' ∧ v'.2 0 = v.2 0 := by
  intro n
  induction n with
  | zero => intro x u v cnt h eg q1 q2; omega
  | succ n ih =>
    intro x u v cnt h eg q1 q2
    obtain ⟨h1, h2, h'⟩ := id h
    have hN := h1.1
    have e6 : u.2 6 = nI N := h1.2.2.2.1
    have e7 : v.2 4 = nI N := h1.2.2.2.2.1
    rcases Nat.lt_or_ge x N with hx | hx
    · have hx6 : x < 60 := by omega
      have cx : (nI x).toNatClampNeg = x := nI_clamp (by omega)
      obtain ⟨-, -, k3, -, -, k6, -⟩ := h2 x hx
      by_cases ew : v.1 10 x = 2
      · obtain ⟨r, u', v', w1, w2, w3, w4⟩ := ih (x + 1) u v cnt h eg (by omega) (by omega)
        refine ⟨r, u', v', ?_, ?_, w3, w4⟩
        · rw [pX6_skip_b58_s, e6, if_neg (nI_ge hx (by omega)), rg_n (show x < rl 5 from hx6), k6, if_pos ew]
          unfold pX6_skip_b118; rw [nI_1]; exact w1
        · rw [pX7_skip_b51_s, e7, if_neg (nI_ge hx (by omega)), ck hx6 (by decide), cx, if_pos ew]
          unfold pX7_skip_b93; rw [nI_1]; exact w2
      · by_cases ep : v.1 7 x = nI a
        · obtain ⟨r, u', v', w1, w2, w3, w4⟩ := ih (x + 1) (sA u 2 (upd (u.1 2) x (nI p))) (sA v 7 (upd (v.1 7) x (nI p))) (cnt + 1) ⟨h1, bo_port hp h2, h'⟩ eg (by omega) (by omega)
          refine ⟨r, u', v', ?_, ?_, w3, w4⟩
          · rw [pX6_skip_b58_s, e6, if_neg (nI_ge hx (by omega)), rg_n (show x < rl 5 from hx6), k6, if_neg ew, rg_n (show x < rl 2 from hx6), k3, if_pos ep, rs_n (show x < rl 2 from hx6)]
            unfold pX6_skip_b118; rw [nI_1]; exact w1
          · rw [pX7_skip_b51_s, e7, if_neg (nI_ge hx (by omega)), ck hx6 (by decide), ck hx6 (by decide), cx, if_neg ew, if_pos ep, hn v eg, bnd_some, ck2 hx6 (by decide)]
            unfold pX7_skip_b93; rw [nI_1]; exact w2
        · obtain ⟨r, u', v', w1, w2, w3, w4⟩ := ih (x + 1) u v cnt h eg (by omega) (by omega)
          refine ⟨r, u', v', ?_, ?_, w3, w4⟩
          · rw [pX6_skip_b58_s, e6, if_neg (nI_ge hx (by omega)), rg_n (show x < rl 5 from hx6), k6, if_neg ew, rg_n (show x < rl 2 from hx6), k3, if_neg ep]
            unfold pX6_skip_b118; rw [nI_1]; exact w1
          · rw [pX7_skip_b51_s, e7, if_neg (nI_ge hx (by omega)), ck hx6 (by decide), ck hx6 (by decide), cx, if_neg ew, if_neg ep]
            unfold pX7_skip_b93; rw [nI_1]; exact w2
    · obtain rfl : x = N := by omega
      refine ⟨cnt, u, v, ?_, ?_, h, rfl⟩
      · rw [pX6_skip_b58_s, e6, if_pos (nI_le (Nat.le_refl _) (by omega))]
      · rw [pX7_skip_b51_s, e7, if_pos (nI_le (Nat.le_refl _) (by omega))]
theorem sx_skip : Sx_skip Rel := by
  rintro u v ⟨N, O, P, h⟩ a1
  have bad : ∀ x : Int32, Rel u (sS v 0 x) := fun x => ⟨N, O, P, h⟩
  rcases inL a1 1 8 1 8 rfl rfl (by decide) (by decide) with z | ⟨a, g1, g2, rfl, z⟩
  · refine ⟨1, 0, u, 0, sS v 0 1, ?_, Or.inr (Or.inl rfl), ?_, rfl, fun h => absurd h (by decide), bad 1⟩
    · unfold pX6_skip; rw [isWithin_eq, if_pos z]
    · unfold pX7_skip pX7_skip_b28; rw [if_pos z, t1]
  obtain ⟨h1, h2, h3, h4, h5, hg, ho, g8, g9, g10, g11, g'⟩ := id h
  have ha : a < 10 := by omega
  have q6 := c_isAhead ha h1.2.2.1 h1.2.2.2.2.2.2.2.1
  have q7 := m_isAhead ha h1.2.2.1 h1.2.2.2.2.2.2.2.2.1
  rw [(g11 a ha).1] at q6
  by_cases q : P < a ∧ v.1 14 a = 0
  · rw [if_pos q] at q6 q7
    have e9 : ∀ i, i < 10 → upd (u.1 21) a 1 i = upd (v.1 14) a 1 i := fun i hi => (RFl.set (s := a) (x := 1) g11 (Or.inr rfl) i hi).1
    obtain ⟨p, y1, y2, y3, y4⟩ := next_both e9 (show a < 9 by omega)
    have hr : RelN N O P (sA u 21 (upd (u.1 21) a 1)) (sA (sS v 0 0) 14 (upd (v.1 14) a 1)) := ⟨h1, h2, h3, h4, h5, hg, ho, g8, g9, g10, RFl.set g11 (Or.inr rfl), g'⟩
    obtain ⟨r, u', v', w1, w2, w3, w4⟩ := skip_loop y2 y4 100 0 _ _ 0 hr rfl (Nat.zero_le _) (by have := h1.1; omega)
    refine ⟨0, r, u', r, v', ?_, Or.inl rfl, ?_, w4, fun _ => rfl, N, O, P, w3⟩
    · unfold pX6_skip
      rw [isWithin_eq, if_neg (by rw [z]; decide), q6, bnd_some, if_neg one0, rs_n (show a < rl 21 from ha), y3 _ rfl, bnd_some]
      exact w1
    · unfold pX7_skip pX7_skip_b28
      rw [if_neg (by rw [z]; decide), q7, bnd_some, if_neg one0, t0, ck ha (by decide), nI_clamp (by omega)]
      exact w2
  · rw [if_neg q] at q6 q7
    refine ⟨3, 0, u, 0, sS v 0 2, ?_, Or.inr (Or.inr rfl), ?_, rfl, fun h => absurd h (by decide), bad 2⟩
    · unfold pX6_skip; rw [isWithin_eq, if_neg (by rw [z]; decide), q6, bnd_some, if_pos rfl]
    · unfold pX7_skip pX7_skip_b28; rw [if_neg (by rw [z]; decide), q7, bnd_some, if_pos rfl, t2]
