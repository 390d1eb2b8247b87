/-! BARS: flags joined, flags added -/
noncomputable def oB (p : Prop) (x m : Int32) : Int32 := if b2p p = 1 then x ||| m else x
noncomputable def aB (p : Prop) (y m : Int32) : Int32 := if b2p p = 1 then y + m else y + 0
theorem oB_t {p : Prop} {x m : Int32} (h : p) : oB p x m = x ||| m := by unfold oB; rw [b2p_t h, if_pos rfl]
theorem oB_f {p : Prop} {x m : Int32} (h : ¬ p) : oB p x m = x := by unfold oB; rw [b2p_f h, if_neg n01]
theorem aB_t {p : Prop} {x m : Int32} (h : p) : aB p x m = x + m := by unfold aB; rw [b2p_t h, if_pos rfl]
theorem aB_f {p : Prop} {x m : Int32} (h : ¬ p) : aB p x m = x + 0 := by unfold aB; rw [b2p_f h, if_neg n01]
theorem oB_c {p q : Prop} {x m : Int32} (h : p ↔ q) : oB p x m = oB q x m := by rw [propext h]
def exF (F : Nat → Prop) (i e : Nat) : Prop := ∃ j, i ≤ j ∧ j < e ∧ F j
theorem ex_t {F : Nat → Prop} {i e : Nat} (hi : i < e) (h : F i) : exF F i e := ⟨i, Nat.le_refl _, hi, h⟩
theorem ex_s {F : Nat → Prop} {i e : Nat} (h : ¬ F i) : exF F i e ↔ exF F (i + 1) e := by
  refine ⟨fun ⟨j, q1, q2, q3⟩ => ⟨j, ?_, q2, q3⟩, fun ⟨j, q1, q2, q3⟩ => ⟨j, by omega, q2, q3⟩⟩
  rcases Nat.lt_or_ge i j with q | q
  · exact q
  · obtain rfl : i = j := by omega
    exact absurd q3 h
theorem ex_e {F : Nat → Prop} {e : Nat} : ¬ exF F e e := fun ⟨j, q1, q2, _⟩ => by omega
theorem oB_st {F : Nat → Prop} {i e : Nat} {x m : Int32} (hi : i < e) (h : F i) : oB (exF F (i + 1) e) (x ||| m) m = oB (exF F i e) x m := by
  rw [oB_t (ex_t hi h)]
  rcases Classical.em (exF F (i + 1) e) with q | q
  · rw [oB_t q, Int32.or_assoc, Int32.or_self]
  · rw [oB_f q]
theorem oB_sf {F : Nat → Prop} {i e : Nat} {x m : Int32} (h : ¬ F i) : oB (exF F (i + 1) e) x m = oB (exF F i e) x m := (oB_c (ex_s h)).symm
theorem or_st {A : Prop} {F : Nat → Prop} {i e : Nat} (hi : i < e) (h : F i) : b2p (True ∨ exF F (i + 1) e) = b2p (A ∨ exF F i e) := b2p_c ⟨fun _ => Or.inr (ex_t hi h), fun _ => Or.inl trivial⟩
theorem or_sf {A : Prop} {F : Nat → Prop} {i e : Nat} (h : ¬ F i) : b2p (A ∨ exF F (i + 1) e) = b2p (A ∨ exF F i e) := b2p_c ⟨fun q => q.elim Or.inl (fun z => Or.inr ((ex_s h).mpr z)), fun q => q.elim Or.inl (fun z => Or.inr ((ex_s h).mp z))⟩
theorem or_sa {A : Prop} {F : Nat → Prop} {i e : Nat} (h : A) : b2p (True ∨ exF F (i + 1) e) = b2p (A ∨ exF F i e) := b2p_c ⟨fun _ => Or.inl h, fun _ => Or.inl trivial⟩
theorem or_e {A : Prop} {F : Nat → Prop} {e : Nat} : b2p A = b2p (A ∨ exF F e e) := b2p_c ⟨Or.inl, fun q => q.elim id (fun z => absurd z ex_e)⟩
theorem tr1 : b2p True = 1 := b2p_t trivial
def FO (v : St) (j : Nat) : Prop := v.1 2 j = 1
def FB (u v : St) (j : Nat) : Prop := BY (mK u j) (v.2 3)
def FX (v : St) (j : Nat) : Prop := v.1 10 j = 1 ∧ v.1 7 j = v.2 5
theorem cb106 {u v : St} {N O P : Nat} (h : RelN N O P u v) : ∀ n i x, i ≤ N → N < i + n → pX6_bars_b106 n x (nI i) u = some (oB (v.2 5 = 9) (oB (exF (FX v) i N) x 16) 32, u) := by
  have hN := h.1.1
  have e6 : u.2 6 = nI N := h.1.2.2.2.1
  have ep : u.2 1 = v.2 5 := h.1.2.2.2.2.2.2.2.1.trans h.1.2.2.2.2.2.2.2.2.1.symm
  intro n
  induction n with
  | zero => intro i x q1 q2; omega
  | succ n ih =>
    intro i x q1 q2
    rcases Nat.lt_or_ge i N with hi | hi
    · have hi6 : i < 60 := by omega
      obtain ⟨-, -, k3, -, -, k6, -⟩ := h.2.1 i hi
      rw [pX6_bars_b106_s, e6, if_neg (nI_ge hi (by omega)), rg_n (show i < rl 5 from hi6), k6, rg_n (show i < rl 2 from hi6), k3, ep]
      unfold pX6_bars_b155
      rw [nI_1]
      by_cases c1 : v.1 10 i = 1
      · by_cases c2 : v.1 7 i = v.2 5
        · rw [if_pos c1, if_pos c2, ih (i + 1) (x ||| 16) hi (by omega), oB_st hi (show FX v i from ⟨c1, c2⟩)]
        · rw [if_pos c1, if_neg c2, ih (i + 1) x hi (by omega), oB_sf (F := FX v) (i := i) (fun q => c2 q.2)]
      · rw [if_neg c1, ih (i + 1) x hi (by omega), oB_sf (F := FX v) (i := i) (fun q => c1 q.1)]
    · obtain rfl : i = N := by omega
      rw [pX6_bars_b106_s, e6, if_pos (nI_le (Nat.le_refl _) (by omega)), ep, oB_f (p := exF (FX v) i i) ex_e]
      unfold pX6_bars_b175
      by_cases c : v.2 5 = 9
      · rw [if_pos c, oB_t c]
      · rw [if_neg c, oB_f c]
theorem cb72 {u v : St} {N O P : Nat} (h : RelN N O P u v) : ∀ n i x, i ≤ 6 → 6 < i + n → pX6_bars_b72 n x (nI i) u = pX6_bars_b106 100 (oB (exF (FB u v) i 6) x 8) 0 u := by
  obtain ⟨⟨s1, s2, s3, s4, s5, s6, s7, s8, s9, s10, s11, s12, s13, s14, s15, s16, s17, s18⟩, -⟩ := id h
  intro n
  induction n with
  | zero => intro i x q1 q2; omega
  | succ n ih =>
    intro i x q1 q2
    rcases Nat.lt_or_ge i 6 with hi | hi
    · have q := by_iff (mK_bd h (show i ≤ 6 by omega)) s17
      rw [pX6_bars_b72_s, if_neg (show ¬ (6 : Int32) ≤ nI i from nI_ge hi (by decide)), c_kept (by omega), bnd_some]
      unfold pX6_bars_b98
      rw [nI_1]
      rcases Classical.em (BY (mK u i) (u.2 5)) with c | c
      · have c' : FB u v i := by unfold FB; rw [← s14]; exact c
        rw [if_neg (fun z => q.mp z c), ih (i + 1) (x ||| 8) hi (by omega), oB_st hi c']
      · have c' : ¬ FB u v i := by unfold FB; rw [← s14]; exact c
        rw [if_pos (q.mpr c), ih (i + 1) x hi (by omega), oB_sf c']
    · obtain rfl : i = 6 := by omega
      rw [pX6_bars_b72_s, if_pos (show (6 : Int32) ≤ nI 6 by decide), oB_f ex_e]
theorem cb50 {u v : St} {N O P : Nat} (h : RelN N O P u v) (x : Int32) : pX6_bars_b50 x u = pX6_bars_b72 100 (oB (BY (mK u 6) (v.2 2)) x 4) 1 u := by
  obtain ⟨⟨s1, s2, s3, s4, s5, s6, s7, s8, s9, s10, s11, s12, s13, s14, s15, s16, s17, s18⟩, -⟩ := id h
  have q := by_iff (mK_bd h (show 6 ≤ 6 by omega)) s16
  unfold pX6_bars_b50 pX6_bars_b70
  rw [show pX6_momentKept 6 u = some (mK u 6, u) from c_kept (Nat.le_refl 6), bnd_some, ← s13]
  rcases Classical.em (BY (mK u 6) (u.2 4)) with c | c
  · rw [if_neg (fun z => q.mp z c), oB_t c]
  · rw [if_pos (q.mpr c), oB_f c]
theorem cb4 {u v : St} {N O P : Nat} (h : RelN N O P u v) : ∀ n i x, i ≤ 6 → 6 < i + n → pX6_bars_b4 n x (nI i) u = pX6_bars_b50 (oB (BY (mK u 0) (v.2 1)) (oB (exF (FO v) i 6) x 1) 2) u := by
  obtain ⟨⟨s1, s2, s3, s4, s5, s6, s7, s8, s9, s10, s11, s12, s13, s14, s15, s16, s17, s18⟩, -, -, -, -, -, ho, -⟩ := id h
  intro n
  induction n with
  | zero => intro i x q1 q2; omega
  | succ n ih =>
    intro i x q1 q2
    rcases Nat.lt_or_ge i 6 with hi | hi
    · rw [pX6_bars_b4_s, if_neg (show ¬ (6 : Int32) ≤ nI i from nI_ge hi (by decide)), c_isOpen hi, bnd_some, (ho i hi).1]
      unfold pX6_bars_b25
      rw [nI_1]
      by_cases c : v.1 2 i = 1
      · rw [if_pos c, if_neg one0, ih (i + 1) (x ||| 1) hi (by omega), oB_st hi (show FO v i from c)]
      · rw [if_neg c, if_pos rfl, ih (i + 1) x hi (by omega), oB_sf (show ¬ FO v i from c)]
    · obtain rfl : i = 6 := by omega
      have q := by_iff (mK_bd h (show 0 ≤ 6 by omega)) s15
      rw [pX6_bars_b4_s, if_pos (show (6 : Int32) ≤ nI 6 by decide), oB_f (p := exF (FO v) 6 6) ex_e, show pX6_momentKept 0 u = some (mK u 0, u) from c_kept (a := 0) (by omega), bnd_some, ← s12]
      rcases Classical.em (BY (mK u 0) (u.2 3)) with c | c
      · rw [if_neg (fun z => q.mp z c), oB_t c]
      · rw [if_pos (q.mpr c), oB_f c]
theorem c_bars {u v : St} {N O P : Nat} (h : RelN N O P u v) : pX6_bars u = some (oB (v.2 5 = 9) (oB (exF (FX v) 0 N) (oB (exF (FB u v) 1 6) (oB (BY (mK u 6) (v.2 2)) (oB (BY (mK u 0) (v.2 1)) (oB (exF (FO v) 0 6) 0 1) 2) 4) 8) 16) 32, u) := by
  have hN := h.1.1
  unfold pX6_bars
  refine (cb4 h 100 0 0 (by omega) (by omega)).trans ?_
  rw [cb50 h]
  refine (cb72 h 100 1 _ (by omega) (by omega)).trans ?_
  exact cb106 h 100 0 _ (by omega) (by omega)
/-- the reference's -/
theorem beyond01 (x b : Int32) : pX7_isBeyond x b = 0 ∨ BY x b := Classical.em _
theorem mb140 {u v : St} {N O P : Nat} (h : RelN N O P u v) (C D : Prop) (y : Int32) : ∃ g, pX7_barsNow_b140 (b2p C) (b2p D) y v = some (aB (v.2 5 = 9) (aB D (aB C (aB (BY (mK u 6) (v.2 2)) (aB (BY (mK u 0) (v.2 1)) y 2) 4) 8) 16) 32, sA v 21 g) := by
  obtain ⟨g1, q1⟩ := mo_both h (show 0 ≤ 6 by omega)
  obtain ⟨g2, q2⟩ := mo_both (u := u) (v := sA v 21 g1) (N := N) (O := O) (P := P) h (show 6 ≤ 6 by omega)
  refine ⟨g2, ?_⟩
  have t208 : ∀ y0 y1 w, pX7_barsNow_b208 y0 y1 w = some (aB (w.2 5 = 9) (y1 + y0) 32, w) := by
    intro y0 y1 w
    unfold pX7_barsNow_b208 pX7_barsNow_b224
    by_cases c : w.2 5 = 9
    · rw [if_pos c, aB_t c]
    · rw [if_neg c, aB_f c]
  have t197 : ∀ y0 y1 w, pX7_barsNow_b197 (b2p D) y0 y1 w = some (aB (w.2 5 = 9) (aB D (y1 + y0) 16) 32, w) := by
    intro y0 y1 w
    unfold pX7_barsNow_b197
    rcases Classical.em D with c | c
    · rw [b2p_t c, if_neg one0, aB_t c, t208]
    · rw [b2p_f c, if_pos rfl, aB_f c, t208]
  have t182 : ∀ y0 y1 w, pX7_barsNow_b182 (b2p C) (b2p D) y0 y1 w = some (aB (w.2 5 = 9) (aB D (aB C (y1 + y0) 8) 16) 32, w) := by
    intro y0 y1 w
    unfold pX7_barsNow_b182
    rcases Classical.em C with c | c
    · rw [b2p_t c, if_neg one0, aB_t c, t197]
    · rw [b2p_f c, if_pos rfl, aB_f c, t197]
  have t160 : ∀ y0 y1, pX7_barsNow_b160 (b2p C) (b2p D) y0 y1 (sA v 21 g1) = some (aB (v.2 5 = 9) (aB D (aB C (aB (BY (mK u 6) (v.2 2)) (y1 + y0) 4) 8) 16) 32, sA v 21 g2) := by
    intro y0 y1
    unfold pX7_barsNow_b160
    rw [show pX7_momentOf 6 (sA v 21 g1) = _ from q2, bnd_some, sA_uu, show (sA v 21 g2).2 2 = v.2 2 from rfl]
    rcases beyond01 (mK u 6) (v.2 2) with c | c
    · rw [if_pos c, aB_f (p := BY (mK u 6) (v.2 2)) (fun z => z c), t182]; rfl
    · rw [if_neg c, aB_t c, t182]; rfl
  unfold pX7_barsNow_b140
  rw [show pX7_momentOf 0 v = _ from q1, bnd_some, show (sA v 21 g1).2 1 = v.2 1 from rfl]
  rcases beyond01 (mK u 0) (v.2 1) with c | c
  · rw [if_pos c, aB_f (p := BY (mK u 0) (v.2 1)) (fun z => z c), t160]
  · rw [if_neg c, aB_t c, t160]
theorem mb81 {u v : St} {N O P : Nat} (h : RelN N O P u v) (A C : Prop) : ∀ n i D, i ≤ N → N < i + n → ∃ g, pX7_barsNow_b81 n (b2p A) (b2p C) (b2p D) (nI i) v = some (aB (v.2 5 = 9) (aB (D ∨ exF (FX v) i N) (aB C (aB (BY (mK u 6) (v.2 2)) (aB (BY (mK u 0) (v.2 1)) (b2p A) 2) 4) 8) 16) 32, sA v 21 g) := by
  have hN := h.1.1
  have e7 : v.2 4 = nI N := h.1.2.2.2.2.1
  have aBc : ∀ {p q : Prop} {x m : Int32}, (p ↔ q) → aB p x m = aB q x m := fun z => by rw [propext z]
  intro n
  induction n with
  | zero => intro i D q1 q2; omega
  | succ n ih =>
    intro i D q1 q2
    rcases Nat.lt_or_ge i N with hi | hi
    · have hi6 : i < 60 := by omega
      have ci : (nI i).toNatClampNeg = i := nI_clamp (by omega)
      have go1 : ∀ D' : Prop, b2p D' = 1 → (D' ∨ exF (FX v) (i + 1) N ↔ D ∨ exF (FX v) i N) → ∃ g, pX7_barsNow_b119 (pX7_barsNow_b81 n) (b2p A) (b2p C) (nI i) v = some (aB (v.2 5 = 9) (aB (D ∨ exF (FX v) i N) (aB C (aB (BY (mK u 6) (v.2 2)) (aB (BY (mK u 0) (v.2 1)) (b2p A) 2) 4) 8) 16) 32, sA v 21 g) := by
        intro D' e1 e2
        obtain ⟨g, w⟩ := ih (i + 1) D' hi (by omega)
        refine ⟨g, ?_⟩
        unfold pX7_barsNow_b119 pX7_barsNow_b124
        rw [nI_1, ← e1, w, aBc e2]
      have go0 : ∀ D' : Prop, b2p D' = 0 → (D' ∨ exF (FX v) (i + 1) N ↔ D ∨ exF (FX v) i N) → ∃ g, pX7_barsNow_b123 (pX7_barsNow_b81 n) (b2p A) (b2p C) (nI i) v = some (aB (v.2 5 = 9) (aB (D ∨ exF (FX v) i N) (aB C (aB (BY (mK u 6) (v.2 2)) (aB (BY (mK u 0) (v.2 1)) (b2p A) 2) 4) 8) 16) 32, sA v 21 g) := by
        intro D' e1 e2
        obtain ⟨g, w⟩ := ih (i + 1) D' hi (by omega)
        refine ⟨g, ?_⟩
        unfold pX7_barsNow_b123 pX7_barsNow_b124
        rw [nI_1, show (0 : Int32) = b2p D' from e1.symm, w, aBc e2]
      rw [pX7_barsNow_b81_s, e7, if_neg (nI_ge hi (by omega))]
      rcases Classical.em D with cD | cD
      · rw [b2p_t cD, if_neg one0]
        exact go1 True tr1 ⟨fun _ => Or.inl cD, fun _ => Or.inl trivial⟩
      · rw [b2p_f cD, if_pos rfl, ck hi6 (by decide), ck hi6 (by decide), ci]
        have un : ¬ FX v i → (False ∨ exF (FX v) (i + 1) N ↔ D ∨ exF (FX v) i N) := fun z => ⟨fun q => q.elim (fun f => f.elim) (fun w => Or.inr ((ex_s z).mpr w)), fun q => q.elim (fun d => absurd d cD) (fun w => Or.inr ((ex_s z).mp w))⟩
        by_cases c1 : v.1 10 i = 1
        · by_cases c2 : v.1 7 i = v.2 5
          · rw [if_pos c1, if_pos c2]
            exact go1 True tr1 ⟨fun _ => Or.inr (ex_t hi ⟨c1, c2⟩), fun _ => Or.inl trivial⟩
          · rw [if_pos c1, if_neg c2]
            exact go0 False (b2p_f id) (un (fun q => c2 q.2))
        · rw [if_neg c1]
          exact go0 False (b2p_f id) (un (fun q => c1 q.1))
    · obtain rfl : i = N := by omega
      rw [pX7_barsNow_b81_s, e7, if_pos (nI_le (Nat.le_refl _) (by omega)), aBc (show D ∨ exF (FX v) i i ↔ D from ⟨fun q => q.elim id (fun z => absurd z ex_e), Or.inl⟩)]
      rcases Classical.em A with c | c
      · rw [b2p_t c, if_neg one0]; exact mb140 h C D 1
      · rw [b2p_f c, if_pos rfl]; exact mb140 h C D 0
theorem mb39 {u v : St} {N O P : Nat} (h : RelN N O P u v) (a : Int32) : ∀ n i C g, i ≤ 6 → 6 < i + n → ∃ g', pX7_barsNow_b39 n a (b2p C) (nI i) (sA v 21 g) = pX7_barsNow_b81 100 a (b2p (C ∨ exF (FB u v) i 6)) 0 0 (sA v 21 g') := by
  intro n
  induction n with
  | zero => intro i C g q1 q2; omega
  | succ n ih =>
    intro i C g q1 q2
    rcases Nat.lt_or_ge i 6 with hi | hi
    · rw [pX7_barsNow_b39_s, if_neg (show ¬ (6 : Int32) ≤ nI i from nI_ge hi (by decide))]
      unfold pX7_barsNow_b64 pX7_barsNow_b69
      rw [nI_1]
      rcases Classical.em C with c | c
      · rw [b2p_t c, if_neg one0]
        obtain ⟨g', w⟩ := ih (i + 1) True g hi (by omega)
        exact ⟨g', by rw [← tr1, w, or_sa c]⟩
      · rw [b2p_f c, if_pos rfl]
        obtain ⟨g1, q⟩ := mo_both (u := u) (v := sA v 21 g) (N := N) (O := O) (P := P) h (show i ≤ 6 by omega)
        rw [q, bnd_some, sA_uu, show (sA v 21 g1).2 3 = v.2 3 from rfl]
        rcases beyond01 (mK u i) (v.2 3) with z | z
        · obtain ⟨g', w⟩ := ih (i + 1) C g1 hi (by omega)
          refine ⟨g', ?_⟩
          rw [if_pos z, ← or_sf (F := FB u v) (i := i) (fun y => y z), ← w, b2p_f c]
        · obtain ⟨g', w⟩ := ih (i + 1) True g1 hi (by omega)
          exact ⟨g', by rw [if_neg z, ← tr1, w, or_st hi (show FB u v i from z)]⟩
    · obtain rfl : i = 6 := by omega
      exact ⟨g, by rw [pX7_barsNow_b39_s, if_pos (show (6 : Int32) ≤ nI 6 by decide), ← or_e]⟩
theorem mb4 {u v : St} {N O P : Nat} (h : RelN N O P u v) : ∀ n i A, i ≤ 6 → 6 < i + n → pX7_barsNow_b4 n (b2p A) (nI i) v = pX7_barsNow_b39 100 (b2p (A ∨ exF (FO v) i 6)) 0 1 v := by
  obtain ⟨-, -, -, -, -, -, ho, -⟩ := id h
  intro n
  induction n with
  | zero => intro i A q1 q2; omega
  | succ n ih =>
    intro i A q1 q2
    rcases Nat.lt_or_ge i 6 with hi | hi
    · rw [pX7_barsNow_b4_s, if_neg (show ¬ (6 : Int32) ≤ nI i from nI_ge hi (by decide)), ck hi (by decide), nI_clamp (by omega)]
      unfold pX7_barsNow_b23 pX7_barsNow_b28
      rw [nI_1]
      rcases Classical.em A with c | c
      · have q := ih (i + 1) True hi (by omega)
        rw [tr1] at q
        rw [b2p_t c, if_neg one0, q, or_sa c]
      · rw [b2p_f c, if_pos rfl]
        rcases (ho i hi).2 with z | z
        · rw [if_pos z, ← or_sf (F := FO v) (i := i) (fun y => by unfold FO at y; rw [z] at y; exact n01 y), ← ih (i + 1) A hi (by omega), b2p_f c]
        · have q := ih (i + 1) True hi (by omega)
          rw [tr1] at q
          rw [if_neg (by rw [z]; exact one0), q, or_st (A := A) hi (show FO v i from z)]
    · obtain rfl : i = 6 := by omega
      rw [pX7_barsNow_b4_s, if_pos (show (6 : Int32) ≤ nI 6 by decide), ← or_e]
theorem m_bars {u v : St} {N O P : Nat} (h : RelN N O P u v) : ∃ g, pX7_barsNow v = some (aB (v.2 5 = 9) (aB (exF (FX v) 0 N) (aB (exF (FB u v) 1 6) (aB (BY (mK u 6) (v.2 2)) (aB (BY (mK u 0) (v.2 1)) (b2p (exF (FO v) 0 6)) 2) 4) 8) 16) 32, sA v 21 g) := by
  have hN := h.1.1
  have f0 : (0 : Int32) = b2p False := (b2p_f id).symm
  have fo : ∀ p : Prop, (False ∨ p) = p := fun p => propext ⟨fun q => q.elim (fun f => f.elim) id, Or.inr⟩
  obtain ⟨g, w⟩ := mb39 h (b2p (exF (FO v) 0 6)) 100 1 False (v.1 21) (by omega) (by omega)
  rw [sA_self, fo, ← f0] at w
  obtain ⟨g', w'⟩ := mb81 (u := u) (v := sA v 21 g) (N := N) (O := O) (P := P) h (exF (FO v) 0 6) (exF (FB u v) 1 6) 100 0 False (Nat.zero_le _) (by omega)
  rw [fo, ← f0, sA_uu] at w'
  refine ⟨g', ?_⟩
  have q := mb4 h 100 0 False (by omega) (by omega)
  rw [fo, ← f0] at q
  exact q.trans (w.trans w')
theorem bars_eq (a b c d e f : Prop) : oB f (oB e (oB d (oB c (oB b (oB a 0 1) 2) 4) 8) 16) 32 = aB f (aB e (aB d (aB c (aB b (b2p a) 2) 4) 8) 16) 32 ∧ (oB f (oB e (oB d (oB c (oB b (oB a 0 1) 2) 4) 8) 16) 32 = 0 → b2p f = 0) := by
  unfold oB aB
  rcases b2p_01 a with h | h <;> rcases b2p_01 b with h1 | h1 <;> rcases b2p_01 c with h2 | h2 <;> rcases b2p_01 d with h3 | h3 <;> rcases b2p_01 e with h4 | h4 <;> rcases b2p_01 f with h5 | h5 <;> rw [h, h1, h2, h3, h4, h5] <;> decide
theorem bars_both {u v : St} {N O P : Nat} (h : RelN N O P u v) : ∃ r g, pX6_bars u = some (r, u) ∧ pX7_barsNow v = some (r, sA v 21 g) ∧ (r = 0 → ¬ v.2 5 = 9) := by
  obtain ⟨g, q⟩ := m_bars h
  obtain ⟨w1, w2⟩ := bars_eq (exF (FO v) 0 6) (BY (mK u 0) (v.2 1)) (BY (mK u 6) (v.2 2)) (exF (FB u v) 1 6) (exF (FX v) 0 N) (v.2 5 = 9)
  exact ⟨_, g, c_bars h, by rw [w1]; exact q, fun z => b2p_0.mp (w2 z)⟩
theorem sx_bars : Sx_bars Rel := by
  rintro u v ⟨N, O, P, h⟩
  have h' : RelN N O P u (sS v 0 0) := h
  obtain ⟨r, g, q1, q2, -⟩ := bars_both h'
  refine ⟨r, u, sA (sS v 0 0) 21 g, q1, ?_, N, O, P, h⟩
  unfold pX7_bars; rw [q2]; rfl
