/-! MOMENTS -/
def BD (B : Nat) (x : Int32) : Prop := x.toInt.natAbs ≤ B
theorem BD_add {A B C : Nat} {x y : Int32} (h : BD A x) (h' : BD B y) (hC : A + B ≤ C) (hL : C < 2 ^ 31) : BD C (x + y) := by
  unfold BD at *
  rw [Int32.toInt_add, Int.bmod_eq_of_le (by omega) (by omega)]
  omega
theorem BD_mul {A B C : Nat} {x y : Int32} (h : BD A x) (h' : BD B y) (hC : A * B ≤ C) (hL : C < 2 ^ 31) : BD C (x * y) := by
  unfold BD at *
  have q : (x.toInt * y.toInt).natAbs ≤ C := by
    rw [Int.natAbs_mul]
    exact Nat.le_trans (Nat.mul_le_mul h h') hC
  rw [Int32.toInt_mul, Int.bmod_eq_of_le (by omega) (by omega)]
  exact q
theorem BD_nI {k B : Nat} (h : k ≤ B) (hB : B < 2 ^ 31) : BD B (nI k) := by
  unfold BD; rw [nI_toInt (by omega)]; omega
theorem BD_sum {B C : Nat} {f : Nat → Int32} : ∀ n, (∀ i, i < n → BD B (f i)) → n * B ≤ C → C < 2 ^ 31 → BD (n * B) (sumN n f) := by
  intro n
  induction n with
  | zero => intro _ _ _; exact Nat.zero_le _
  | succ n ih =>
    intro h q1 q2
    have e : (n + 1) * B = n * B + B := Nat.succ_mul n B
    exact BD_add (ih (fun i hi => h i (by omega)) (by omega) q2) (h n (Nat.lt_succ_self n)) (by omega) (by omega)
theorem sumN_add {a b : Nat} {f : Nat → Int32} : sumN (a + b) f = sumN a f + sumN b (fun j => f (a + j)) := by
  induction b with
  | zero => exact (Int32.add_zero _).symm
  | succ b ih =>
    show sumN (a + b) f + f (a + b) = sumN a f + (sumN b (fun j => f (a + j)) + f (a + b))
    rw [ih, Int32.add_assoc]
theorem sumN_12 {f : Nat → Int32} : ∀ n, sumN (12 * n) f = sumN n (fun y => sumN 12 (fun j => f (12 * y + j))) := by
  intro n
  induction n with
  | zero => rfl
  | succ n ih =>
    show sumN (12 * n + 12) f = sumN n _ + sumN 12 _
    rw [sumN_add, ih]
/-- the moment that the class keeps -/
def mK (u : St) (a : Nat) : Int32 := if a = 6 then u.2 7 else sumN 6 (fun i => u.1 12 i * pX6_leverOf (nI i) (nI a))
theorem c_kept_loop {u : St} {a : Nat} : ∀ n i, i ≤ 6 → 6 < i + n → pX6_momentKept_b18 n (nI a) (sumN i (fun i => u.1 12 i * pX6_leverOf (nI i) (nI a))) (nI i) u = some (sumN 6 (fun i => u.1 12 i * pX6_leverOf (nI i) (nI a)), u) := by
  intro n
  induction n with
  | zero => intro i q1 q2; omega
  | succ n ih =>
    intro i q1 q2
    rcases Nat.lt_or_ge i 6 with hi | hi
    · rw [pX6_momentKept_b18_s, if_neg (show ¬ (6 : Int32) ≤ nI i from nI_ge hi (by decide)), rg_n (show i < rl 12 from hi), nI_1]
      exact ih (i + 1) hi (by omega)
    · obtain rfl : i = 6 := by omega
      rw [pX6_momentKept_b18_s, if_pos (show (6 : Int32) ≤ nI 6 by decide)]
theorem c_kept {u : St} {a : Nat} (ha : a ≤ 6) : pX6_momentKept (nI a) u = some (mK u a, u) := by
  unfold pX6_momentKept mK
  by_cases e : a = 6
  · subst e; rw [if_pos (show nI 6 = 6 from rfl), if_pos rfl]
  · rw [if_neg (fun q => e (nI_inj (by omega) (by decide) (q.trans (show (6 : Int32) = nI 6 from rfl)))), if_neg e]
    exact c_kept_loop 100 0 (by omega) (by omega)
/-- a bay's load, and its part of the heel -/
def LB (v : St) (y : Nat) : Int32 := v.1 4 y + sumN 12 (fun k => wt (v.1 6) (v.1 0 (12 * y + k)))
def HB (v : St) (y : Nat) : Int32 := sumN 12 (fun k => wt (v.1 6) (v.1 0 (12 * y + k)) * (nI (k / 4) - 1))
theorem q4 : ∀ k, k < 12 → nI k / 4 = nI (k / 4) := by decide +kernel
theorem m_bay {v : St} {N y : Nat} (hN : N ≤ 60) (hs : ∀ s, s < 72 → v.1 0 s = -1 ∨ ∃ b, b < N ∧ v.1 0 s = nI b) (hy : y < 6) (K : Int32 → Int32 → Int32 → Int32 → St → Option (Int32 × St)) (a h t w : Int32) (g : Nat → Int32) : ∀ n k, k ≤ 12 → 12 < k + n →
    pX7_momentOf_b31 K n a (h + sumN k (fun k => wt (v.1 6) (v.1 0 (12 * y + k)) * (nI (k / 4) - 1))) t (nI y) (nI k) (sA v 21 (upd g y (w + sumN k (fun k => wt (v.1 6) (v.1 0 (12 * y + k)))))) = K a (h + HB v y) (t + (w + sumN 12 (fun k => wt (v.1 6) (v.1 0 (12 * y + k))))) (nI (y + 1)) (sA v 21 (upd g y (w + sumN 12 (fun k => wt (v.1 6) (v.1 0 (12 * y + k)))))) := by
  intro n
  induction n with
  | zero => intro k q1 q2; omega
  | succ n ih =>
    intro k q1 q2
    have K6 : 6 < 2 ^ 31 := by decide
    have cy : (nI y).toNatClampNeg = y := nI_clamp (by omega)
    rcases Nat.lt_or_ge k 12 with hk | hk
    · have hix : 12 * y + k < 72 := by omega
      have eix : (12 : Int32) * nI y + nI k = nI (12 * y + k) := by rw [show (12 : Int32) = nI 12 from rfl, pk_mul, nI_add]
      have cix : (nI (12 * y + k)).toNatClampNeg = 12 * y + k := nI_clamp (by omega)
      rw [← ih (k + 1) hk (by omega), pX7_momentOf_b31_s, if_neg (show ¬ (12 : Int32) ≤ nI k from nI_ge hk (by decide)), eix, ck hix (by decide), ck hy K6, cix, cy]
      generalize hf : (fun k => wt (v.1 6) (v.1 0 (12 * y + k))) = f
      generalize he : (fun k => wt (v.1 6) (v.1 0 (12 * y + k)) * (nI (k / 4) - 1)) = e
      have fk : f k = wt (v.1 6) (v.1 0 (12 * y + k)) := by rw [← hf]
      have ek : e k = wt (v.1 6) (v.1 0 (12 * y + k)) * (nI (k / 4) - 1) := by rw [← he]
      rw [show (sA v 21 (upd g y (w + sumN k f))).1 0 (12 * y + k) = v.1 0 (12 * y + k) from rfl, show (sA v 21 (upd g y (w + sumN k f))).1 21 y = w + sumN k f from (show upd g y (w + sumN k f) y = w + sumN k f from pk_us)]
      rcases hs (12 * y + k) hix with z | ⟨b, hb, z⟩
      · rw [z, if_pos rfl]
        unfold pX7_momentOf_b78 pX7_momentOf_b105
        rw [ck hy K6, if_pos rfl, cy, nI_1]
        have w0 : wt (v.1 6) (-1) = 0 := wt_m1
        rw [z, w0] at fk ek
        have r1 : sumN (k + 1) f = sumN k f + 0 := by show sumN k f + f k = _; rw [fk]
        have r2 : h + sumN (k + 1) e = h + sumN k e + 0 := by show h + (sumN k e + e k) = _; rw [ek]; grind
        rw [r1, r2]
        show pX7_momentOf_b31 K n a (h + sumN k e + 0) t (nI y) (nI (k + 1)) (sA (sA v 21 (upd g y (w + sumN k f))) 21 (upd (upd g y (w + sumN k f)) y (w + sumN k f + 0))) = _
        rw [sA_uu, pk_uu, Int32.add_assoc w]
      · have hb6 : b < 60 := by omega
        have cb : (nI b).toNatClampNeg = b := nI_clamp (by omega)
        rw [z, if_neg (nI_m1 (by omega)), ck hb6 (by decide)]
        unfold pX7_momentOf_b78 pX7_momentOf_b105
        rw [ck hy K6, if_neg (nI_m1 (by omega)), ck hb6 (by decide), cy, cb, nI_1, q4 k hk]
        have w0 : wt (v.1 6) (nI b) = v.1 6 b := wt_n (by omega)
        rw [z, w0] at fk ek
        have r1 : sumN (k + 1) f = sumN k f + v.1 6 b := by show sumN k f + f k = _; rw [fk]
        have r2 : h + sumN (k + 1) e = h + sumN k e + v.1 6 b * (nI (k / 4) - 1) := by show h + (sumN k e + e k) = _; rw [ek, Int32.add_assoc]
        rw [r1, r2]
        show pX7_momentOf_b31 K n a (h + sumN k e + v.1 6 b * (nI (k / 4) - 1)) t (nI y) (nI (k + 1)) (sA (sA v 21 (upd g y (w + sumN k f))) 21 (upd (upd g y (w + sumN k f)) y (w + sumN k f + v.1 6 b))) = _
        rw [sA_uu, pk_uu, Int32.add_assoc w]
    · obtain rfl : k = 12 := by omega
      rw [pX7_momentOf_b31_s, if_pos (show (12 : Int32) ≤ nI 12 by decide), ck hy K6, cy, nI_1, show (sA v 21 (upd g y (w + sumN 12 (fun k => wt (v.1 6) (v.1 0 (12 * y + k)))))).1 21 y = w + sumN 12 (fun k => wt (v.1 6) (v.1 0 (12 * y + k))) from (show upd g y (w + sumN 12 (fun k => wt (v.1 6) (v.1 0 (12 * y + k)))) y = _ from pk_us)]
      rfl
theorem m_bays {v : St} {N : Nat} (hN : N ≤ 60) (hs : ∀ s, s < 72 → v.1 0 s = -1 ∨ ∃ b, b < N ∧ v.1 0 s = nI b) (a : Int32) : ∀ n y, y ≤ 6 → 6 < y + n → ∀ g : Nat → Int32, (∀ i, i < y → g i = LB v i) →
    ∃ g' : Nat → Int32, (∀ i, i < 6 → g' i = LB v i) ∧ pX7_momentOf_b7 n a (sumN y (HB v)) (sumN y (LB v)) (nI y) (sA v 21 g) = if a = 6 then some (sumN 6 (HB v), sA v 21 g') else pX7_momentOf_b143 100 a (sumN 6 (LB v)) 0 0 (sA v 21 g') := by
  intro n
  induction n with
  | zero => intro y q1 q2; omega
  | succ n ih =>
    intro y q1 q2 g hg
    have cy : (nI y).toNatClampNeg = y := nI_clamp (by omega)
    rcases Nat.lt_or_ge y 6 with hy | hy
    · obtain ⟨g', z1, z2⟩ := ih (y + 1) hy (by omega) (upd g y (LB v y)) (fun i hi => by
        by_cases e : i = y
        · subst e; exact pk_us
        · rw [pk_un e]; exact hg i (by omega))
      refine ⟨g', z1, ?_⟩
      rw [← z2, pX7_momentOf_b7_s, if_neg (show ¬ (6 : Int32) ≤ nI y from nI_ge hy (by decide)), ck hy (by decide), ck hy (by decide), cy]
      have q := m_bay hN hs hy (pX7_momentOf_b7 n) a (sumN y (HB v)) (sumN y (LB v)) (v.1 4 y) g 100 0 (by omega) (by omega)
      rw [show sumN y (HB v) + sumN 0 (fun k => wt (v.1 6) (v.1 0 (12 * y + k)) * (nI (k / 4) - 1)) = sumN y (HB v) from Int32.add_zero _, show v.1 4 y + sumN 0 (fun k => wt (v.1 6) (v.1 0 (12 * y + k))) = v.1 4 y from Int32.add_zero _] at q
      rw [show (sA (sA v 21 g) 21 (upd ((sA v 21 g).1 21) y ((sA v 21 g).1 4 y))) = sA v 21 (upd g y (v.1 4 y)) from sA_uu]
      exact q
    · obtain rfl : y = 6 := by omega
      refine ⟨g, hg, ?_⟩
      rw [pX7_momentOf_b7_s, if_pos (show (6 : Int32) ≤ nI 6 by decide)]
def MT (L : Nat → Int32) (a : Int32) (i : Nat) : Int32 := if a = 0 then L i * (2 * nI i - 5) else if a ≤ nI i then 0 else 6 * L i
theorem m_cut {w : St} {a t : Int32} : ∀ n i, i ≤ 6 → 6 < i + n → pX7_momentOf_b143 n a t (sumN i (MT (w.1 21) a)) (nI i) w = some (if a = 0 then sumN 6 (MT (w.1 21) a) else sumN 6 (MT (w.1 21) a) - a * t, w) := by
  intro n
  induction n with
  | zero => intro i q1 q2; omega
  | succ n ih =>
    intro i q1 q2
    have ci : (nI i).toNatClampNeg = i := nI_clamp (by omega)
    rcases Nat.lt_or_ge i 6 with hi | hi
    · rw [← ih (i + 1) hi (by omega), pX7_momentOf_b143_s, if_neg (show ¬ (6 : Int32) ≤ nI i from nI_ge hi (by decide)), ck hi (by decide), ck hi (by decide), ci]
      unfold pX7_momentOf_b193
      rw [nI_1]
      have r : sumN (i + 1) (MT (w.1 21) a) = sumN i (MT (w.1 21) a) + MT (w.1 21) a i := rfl
      rw [r]
      unfold MT
      by_cases e : a = 0
      · rw [if_pos e, if_pos e]
      · rw [if_neg e, if_neg e]
        by_cases e' : a ≤ nI i
        · rw [if_pos e', if_pos e']
        · rw [if_neg e', if_neg e']
    · obtain rfl : i = 6 := by omega
      rw [pX7_momentOf_b143_s, if_pos (show (6 : Int32) ≤ nI 6 by decide)]
      by_cases e : a = 0
      · rw [if_pos e, if_pos e]
      · rw [if_neg e, if_neg e]
theorem lever_sum {L : Nat → Int32} {a : Nat} (ha : a < 6) : ∀ n, n ≤ 6 → sumN n (fun i => L i * pX6_leverOf (nI i) (nI a)) = if nI a = 0 then sumN n (MT L (nI a)) else sumN n (MT L (nI a)) - nI a * sumN n L := by
  intro n
  induction n with
  | zero => intro _; show (0 : Int32) = if nI a = 0 then 0 else 0 - nI a * 0; split <;> grind
  | succ n ih =>
    intro hn
    have q := ih (by omega)
    show sumN n (fun i => L i * pX6_leverOf (nI i) (nI a)) + L n * pX6_leverOf (nI n) (nI a) = if nI a = 0 then sumN n (MT L (nI a)) + MT L (nI a) n else (sumN n (MT L (nI a)) + MT L (nI a) n) - nI a * (sumN n L + L n)
    rw [q]
    unfold pX6_leverOf pX6_leverOf_b21 MT
    by_cases e : nI a = 0
    · rw [if_pos e, if_pos e, if_pos e, if_pos e]
    · rw [if_neg e, if_neg e, if_neg e, if_neg e]
      by_cases e' : nI a ≤ nI n
      · rw [if_pos e', if_pos e']; grind
      · rw [if_neg e', if_neg e']; grind
