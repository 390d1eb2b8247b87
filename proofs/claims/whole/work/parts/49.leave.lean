/-! SHE LEAVES -/
def gone (x : Nat) (f0 : Nat → Int32) (y : Int32) (f g : Nat → Int32) (N : Nat) : Prop := ∀ b, b < N → g b = if x ≤ b ∧ f0 b = 0 then y else f b
theorem c_gone {N : Nat} : ∀ n x (u : St), N ≤ 60 → u.2 6 = nI N → x ≤ N → N < x + n → ∃ w p, pX6_leave_b19 n (nI x) u = (bnd (pX5_clear (sA (sA u 5 w) 6 p)) (fun r6 w7 => bnd (pX6_portBehind ((sS w7 8 0).2 1) (sS w7 8 0)) (fun r9 w10 => some (0, (sS w10 1 r9).2 1, sS w10 1 r9)))) ∧ gone x (u.1 5) 2 (u.1 5) w N ∧ gone x (u.1 5) (-1) (u.1 6) p N := by
  intro n
  induction n with
  | zero => intro x u hN e6 q1 q2; omega
  | succ n ih =>
    intro x u hN e6 q1 q2
    rcases Nat.lt_or_ge x N with hx | hx
    · have hx6 : x < 60 := by omega
      by_cases c : u.1 5 x = 0
      · obtain ⟨w, p, z1, z2, z3⟩ := ih (x + 1) (sA (sA u 5 (upd (u.1 5) x 2)) 6 (upd (u.1 6) x (-1))) hN e6 hx (by omega)
        refine ⟨w, p, ?_, fun b hb => ?_, fun b hb => ?_⟩
        · rw [pX6_leave_b19_s, e6, if_neg (nI_ge hx (by omega)), rg_n (show x < rl 5 from hx6), if_pos c]
          unfold pX0_move pX6_leave_b54
          rw [rs_n (show x < rl 5 from hx6), rs_n (show x < rl 6 from hx6), bnd_some, nI_1]
          refine Eq.trans z1 ?_
          rw [show (sA (sA (sA (sA u 5 (upd (u.1 5) x 2)) 6 (upd (u.1 6) x (-1))) 5 w) 6 p) = sA (sA u 5 w) 6 p from by
            rw [sA_sw (u := sA u 5 (upd (u.1 5) x 2)) (k := 6) (j := 5) (by decide), sA_uu, sA_uu]]
        · rw [z2 b hb]
          show (if x + 1 ≤ b ∧ upd (u.1 5) x 2 b = 0 then (2 : Int32) else upd (u.1 5) x 2 b) = _
          by_cases e : b = x
          · subst e; rw [if_neg (by omega), if_pos ⟨Nat.le_refl _, c⟩, pk_us]
          · rw [pk_un e]
            by_cases d : u.1 5 b = 0
            · by_cases d' : x ≤ b
              · rw [if_pos ⟨by omega, d⟩, if_pos ⟨d', d⟩]
              · rw [if_neg (by omega), if_neg (fun q => d' q.1)]
            · rw [if_neg (fun q => d q.2), if_neg (fun q => d q.2)]
        · rw [z3 b hb]
          show (if x + 1 ≤ b ∧ upd (u.1 5) x 2 b = 0 then (-1 : Int32) else upd (u.1 6) x (-1) b) = _
          by_cases e : b = x
          · subst e; rw [if_neg (by omega), if_pos ⟨Nat.le_refl _, c⟩, pk_us]
          · rw [pk_un e, pk_un e]
            by_cases d : u.1 5 b = 0
            · by_cases d' : x ≤ b
              · rw [if_pos ⟨by omega, d⟩, if_pos ⟨d', d⟩]
              · rw [if_neg (by omega), if_neg (fun q => d' q.1)]
            · rw [if_neg (fun q => d q.2), if_neg (fun q => d q.2)]
      · obtain ⟨w, p, z1, z2, z3⟩ := ih (x + 1) u hN e6 hx (by omega)
        have sk : ∀ b, (x + 1 ≤ b ∧ u.1 5 b = 0) ↔ (x ≤ b ∧ u.1 5 b = 0) := by
          intro b
          refine ⟨fun q => ⟨by omega, q.2⟩, fun q => ⟨?_, q.2⟩⟩
          rcases Nat.lt_or_ge x b with r | r
          · exact r
          · obtain rfl : b = x := by omega
            exact absurd q.2 c
        refine ⟨w, p, ?_, fun b hb => ?_, fun b hb => ?_⟩
        · rw [pX6_leave_b19_s, e6, if_neg (nI_ge hx (by omega)), rg_n (show x < rl 5 from hx6), if_neg c]
          unfold pX6_leave_b54
          rw [nI_1]; exact z1
        · rw [z2 b hb]; simp only [sk b]
        · rw [z3 b hb]; simp only [sk b]
    · obtain rfl : x = N := by omega
      refine ⟨u.1 5, u.1 6, ?_, fun b hb => ?_, fun b hb => ?_⟩
      · rw [pX6_leave_b19_s, e6, if_pos (nI_le (Nat.le_refl _) (by omega)), sA_self, sA_self]
      · rw [if_neg (by omega)]
      · rw [if_neg (by omega)]
theorem upd_self {f : Nat → Int32} {k : Nat} : upd f k (f k) = f := by
  funext j
  by_cases e : j = k
  · subst e; exact pk_us
  · exact pk_un e
theorem m_gone {N : Nat} : ∀ n x (v : St), N ≤ 60 → v.2 4 = nI N → x ≤ N → N < x + n → ∃ w, pX7_leave_b44 n (nI x) v = pX7_leave_b85 100 0 (sA v 10 w) ∧ gone x (v.1 10) 2 (v.1 10) w N := by
  intro n
  induction n with
  | zero => intro x v hN e7 q1 q2; omega
  | succ n ih =>
    intro x v hN e7 q1 q2
    rcases Nat.lt_or_ge x N with hx | hx
    · have hx6 : x < 60 := by omega
      have cx : (nI x).toNatClampNeg = x := nI_clamp (by omega)
      by_cases c : v.1 10 x = 0
      · obtain ⟨w, z1, z2⟩ := ih (x + 1) (sA v 10 (upd (v.1 10) x 2)) hN e7 hx (by omega)
        refine ⟨w, ?_, fun b hb => ?_⟩
        · rw [pX7_leave_b44_s, e7, if_neg (nI_ge hx (by omega)), ck hx6 (by decide), ck hx6 (by decide), cx, if_pos c]
          unfold pX7_leave_b76
          rw [ck hx6 (by decide), cx, nI_1, z1, sA_uu]
        · rw [z2 b hb]
          show (if x + 1 ≤ b ∧ upd (v.1 10) x 2 b = 0 then (2 : Int32) else upd (v.1 10) x 2 b) = _
          by_cases e : b = x
          · subst e; rw [if_neg (by omega), if_pos ⟨Nat.le_refl _, c⟩, pk_us]
          · rw [pk_un e]
            by_cases d : v.1 10 b = 0
            · by_cases d' : x ≤ b
              · rw [if_pos ⟨by omega, d⟩, if_pos ⟨d', d⟩]
              · rw [if_neg (by omega), if_neg (fun q => d' q.1)]
            · rw [if_neg (fun q => d q.2), if_neg (fun q => d q.2)]
      · obtain ⟨w, z1, z2⟩ := ih (x + 1) v hN e7 hx (by omega)
        have sk : ∀ b, (x + 1 ≤ b ∧ v.1 10 b = 0) ↔ (x ≤ b ∧ v.1 10 b = 0) := by
          intro b
          refine ⟨fun q => ⟨by omega, q.2⟩, fun q => ⟨?_, q.2⟩⟩
          rcases Nat.lt_or_ge x b with r | r
          · exact r
          · obtain rfl : b = x := by omega
            exact absurd q.2 c
        refine ⟨w, ?_, fun b hb => ?_⟩
        · rw [pX7_leave_b44_s, e7, if_neg (nI_ge hx (by omega)), ck hx6 (by decide), ck hx6 (by decide), cx, if_neg c]
          unfold pX7_leave_b76
          rw [ck hx6 (by decide), cx, nI_1, upd_self, sA_self]; exact z1
        · rw [z2 b hb]; simp only [sk b]
    · obtain rfl : x = N := by omega
      refine ⟨v.1 10, ?_, fun b hb => ?_⟩
      · rw [pX7_leave_b44_s, e7, if_pos (nI_le (Nat.le_refl _) (by omega)), sA_self]
      · rw [if_neg (by omega)]
theorem m_clear : ∀ n x (v : St), x ≤ 10 → 10 < x + n → ∃ g : Nat → Int32, pX7_leave_b85 n (nI x) v = some (v.2 5, sA v 12 g) ∧ ∀ t, t < 10 → g t = if x ≤ t then 0 else v.1 12 t := by
  intro n
  induction n with
  | zero => intro x v q1 q2; omega
  | succ n ih =>
    intro x v q1 q2
    rcases Nat.lt_or_ge x 10 with hx | hx
    · obtain ⟨g, z1, z2⟩ := ih (x + 1) (sA v 12 (upd (v.1 12) x 0)) hx (by omega)
      refine ⟨g, ?_, fun t ht => ?_⟩
      · rw [pX7_leave_b85_s, if_neg (show ¬ (10 : Int32) ≤ nI x from nI_ge hx (by decide)), ck hx (by decide), nI_clamp (by omega), nI_1, z1, sA_uu]; rfl
      · rw [z2 t ht]
        show (if x + 1 ≤ t then 0 else upd (v.1 12) x 0 t) = _
        by_cases e : t = x
        · subst e; rw [if_neg (by omega), if_pos (Nat.le_refl _), pk_us]
        · rw [pk_un e]
          by_cases d : x ≤ t
          · rw [if_pos (by omega), if_pos d]
          · rw [if_neg (by omega), if_neg d]
    · obtain rfl : x = 10 := by omega
      refine ⟨v.1 12, ?_, fun t ht => ?_⟩
      · rw [pX7_leave_b85_s, if_pos (show (10 : Int32) ≤ nI 10 by decide), sA_self]
      · rw [if_neg (by omega)]
theorem rel_leave {u v : St} {N O P P' : Nat} {w p w' hg hg' : Nat → Int32} (h : RelN N O P u v) (hP : P' ≤ 9) (hw : gone 0 (u.1 5) 2 (u.1 5) w N) (hp : gone 0 (u.1 5) (-1) (u.1 6) p N) (hw' : gone 0 (v.1 10) 2 (v.1 10) w' N) (z : ∀ t, t < 10 → hg t = 0) (z' : ∀ t, t < 10 → hg' t = 0) :
    RelN N 0 P' (sS (sS (sA (sA (sA u 5 w) 6 p) 7 hg) 8 0) 1 (nI P')) (sA (sA (sS (sS v 5 (nI P')) 6 0) 10 w') 12 hg') := by
  obtain ⟨⟨s1, s2, s3, s4, s5, s6, s7, s8, s9, s10, s11, s12, s13, s14, s15, s16, s17, s18⟩, h2, h3, h4, h5, hgf, ho, g8, g9, g10, g11, hcr, hq, g14, g15⟩ := id h
  have e5 : ∀ b, b < N → u.1 5 b = v.1 10 b := fun b hb => (h2 b hb).2.2.2.2.2.1
  have W : ∀ b, b < N → w' b = if v.1 10 b = 0 then 2 else v.1 10 b := by
    intro b hb
    rw [hw' b hb]
    by_cases c : v.1 10 b = 0
    · rw [if_pos ⟨Nat.zero_le _, c⟩, if_pos c]
    · rw [if_neg (fun q => c q.2), if_neg c]
  have W0 : ∀ b, b < N → ¬ w' b = 0 := by
    intro b hb
    rw [W b hb]
    by_cases c : v.1 10 b = 0
    · rw [if_pos c]; decide
    · rw [if_neg c]; exact c
  have W1 : ∀ b, b < N → (w' b = 1 ↔ v.1 10 b = 1) := by
    intro b hb
    rw [W b hb]
    by_cases c : v.1 10 b = 0
    · rw [if_pos c, c]; exact ⟨fun q => absurd q (by decide), fun q => absurd q (by decide)⟩
    · rw [if_neg c]
  have W6 : ∀ b, b < N → w b = w' b := by
    intro b hb
    rw [hw b hb, hw' b hb, e5 b hb]
  refine ⟨⟨s1, by omega, hP, s4, s5, rfl, rfl, rfl, rfl, s10, s11, s12, s13, s14, s15, s16, s17, s18⟩, ?_, ?_, ?_, ?_, hgf, ho, g8, g9, g10, g11, hcr, ?_, g14, g15⟩
  · intro b hb
    obtain ⟨q1, q2, q3, q4, q5, q6, q7⟩ := h2 b hb
    exact ⟨q1, q2, q3, q4, q5, W6 b hb, q7⟩
  · intro b hb
    show (w' b = 0 ∧ ∃ t, t < 10 ∧ p b = nI t ∧ v.1 11 b = nI t) ∨ (w' b = 1 ∧ ∃ s, s < 72 ∧ p b = sN s ∧ v.1 11 b = nI s) ∨ (w' b = 2 ∧ p b = -1)
    rw [hp b hb, e5 b hb, W b hb]
    by_cases c : v.1 10 b = 0
    · rw [if_pos c, if_pos ⟨Nat.zero_le _, c⟩]; exact Or.inr (Or.inr ⟨rfl, rfl⟩)
    · rw [if_neg c, if_neg (fun q => c q.2)]; exact h3 b hb
  · intro t ht
    refine ⟨0, by omega, z t ht, z' t ht, fun k hk => absurd hk (by omega), fun i k hi => absurd hi (by omega), fun b hb q => absurd q (W0 b hb)⟩
  · refine ⟨fun s hs => ?_, fun b hb q => h5.2 b hb ((W1 b hb).mp q)⟩
    obtain ⟨q1, q2⟩ := h5.1 s hs
    refine ⟨q1, q2.elim Or.inl (fun ⟨b, hb, y1, y2, y3⟩ => Or.inr ⟨b, hb, y1, (W1 b hb).mpr y2, y3⟩)⟩
  · intro o ho'; omega
theorem sx_leave : Sx_leave Rel := by
  rintro u v ⟨N, O, P, h⟩
  obtain ⟨r, g, q6, q7, q9⟩ := bars_both h
  have hv : RelN N O P u (sA v 21 g) := h
  have ep7 : v.2 5 = nI P := h.1.2.2.2.2.2.2.2.2.1
  have ep6 : u.2 1 = nI P := h.1.2.2.2.2.2.2.2.1
  by_cases c : r = 0
  · have hP : P < 9 := by
      rcases Nat.lt_or_ge P 9 with q | q
      · exact q
      · obtain rfl : P = 9 := by have := h.1.2.2.1; omega
        exact absurd ep7 (q9 c)
    obtain ⟨-, -, -, -, -, -, -, -, -, -, g11, -⟩ := id h
    obtain ⟨p, y1, y2, y3, y4⟩ := next_both (f := u.1 21) (g := v.1 14) (fun i hi => (g11 i hi).1) hP
    obtain ⟨w, pl, c1, c2, c3⟩ := c_gone 100 0 u h.1.1 h.1.2.2.2.1 (Nat.zero_le _) (by have := h.1.1; omega)
    obtain ⟨w', m1, m2⟩ := m_gone 100 0 (sS (sS (sS (sA v 21 g) 0 0) 5 (nI p)) 6 0) h.1.1 h.1.2.2.2.2.1 (Nat.zero_le _) (by have := h.1.1; omega)
    obtain ⟨hg', n1, n2⟩ := m_clear 100 0 (sA (sS (sS (sS (sA v 21 g) 0 0) 5 (nI p)) 6 0) 10 w') (by omega) (by omega)
    refine ⟨0, nI p, sS (sS (rf (sA (sA u 5 w) 6 pl) 7 0) 8 0) 1 (nI p), nI p, sA (sA (sS (sS (sS (sA v 21 g) 0 0) 5 (nI p)) 6 0) 10 w') 12 hg', ?_, Or.inl rfl, ?_, rfl, fun _ => rfl, N, 0, p, ?_⟩
    · unfold pX6_leave
      rw [q6, bnd_some, if_pos c]
      refine c1.trans ?_
      unfold pX5_clear
      rw [bnd_some]
      show bnd (pX6_portBehind (u.2 1) (sS (rf (sA (sA u 5 w) 6 pl) 7 0) 8 0)) _ = _
      rw [ep6, y3 (sS (rf (sA (sA u 5 w) 6 pl) 7 0) 8 0) rfl, bnd_some]
      rfl
    · unfold pX7_leave pX7_leave_b13
      rw [q7, bnd_some, if_pos c, t0]
      show bnd (pX7_nextPort (v.2 5) (sS (sA v 21 g) 0 0)) _ = _
      rw [ep7, y4 (sS (sA v 21 g) 0 0) rfl, bnd_some]
      exact m1.trans n1
    · exact rel_leave (v := sS (sA v 21 g) 0 0) h y2 c2 c3 m2 (hg := rfill 10 (u.1 7) 0) (fun t ht => if_pos ht) (fun t ht => by rw [n2 t ht]; rfl)
  · refine ⟨3, 0, u, 0, sS (sA v 21 g) 0 1, ?_, Or.inr rfl, ?_, rfl, fun h => absurd h (by decide), N, O, P, h⟩
    · unfold pX6_leave; rw [q6, bnd_some, if_neg c]
    · unfold pX7_leave pX7_leave_b13; rw [q7, bnd_some, if_neg c, t1]
