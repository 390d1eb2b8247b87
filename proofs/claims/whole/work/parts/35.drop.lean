/-! TAKING AN ORDER OUT OF THE ROW -/
theorem sA_sw {u : St} {k j : Nat} {f g : Nat → Int32} (h : k ≠ j) : sA (sA u k f) j g = sA (sA u j g) k f := by
  refine Prod.ext (funext fun i => ?_) rfl
  show va_up (va_up u.1 k f) j g i = va_up (va_up u.1 j g) k f i
  unfold va_up
  by_cases h1 : i = j
  · by_cases h2 : i = k
    · exact absurd (h2.symm.trans h1) h
    · rw [if_pos h1, if_neg h2, if_pos h1]
  · by_cases h2 : i = k
    · rw [if_neg h1, if_pos h2, if_pos h2]
    · rw [if_neg h1, if_neg h2, if_neg h2, if_neg h1]
theorem sA_uu {u : St} {k : Nat} {f g : Nat → Int32} : sA (sA u k f) k g = sA u k g := by
  refine Prod.ext (funext fun i => ?_) rfl
  show va_up (va_up u.1 k f) k g i = va_up u.1 k g i
  unfold va_up
  by_cases h1 : i = k
  · rw [if_pos h1, if_pos h1]
  · rw [if_neg h1, if_neg h1, if_neg h1]
def sh (f : Nat → Int32) (o x : Nat) : Nat → Int32 := fun j => if o ≤ j ∧ j < x then f (j + 1) else f j
theorem sh_step {f : Nat → Int32} {o x : Nat} (h : o ≤ x) : upd (sh f o x) x (sh f o x (x + 1)) = sh f o (x + 1) := by
  funext j
  by_cases e : j = x
  · subst e; rw [pk_us]; unfold sh; rw [if_neg (by omega), if_pos (by omega)]
  · rw [pk_un e]; unfold sh
    by_cases q : o ≤ j ∧ j < x
    · rw [if_pos q, if_pos (by omega)]
    · rw [if_neg q, if_neg (by omega)]
theorem sh_0 {f : Nat → Int32} {o : Nat} : sh f o o = f := by
  funext j; unfold sh; rw [if_neg (by omega)]
def cQ (w : St) (o x : Nat) : St := sA (sA (sA w 15 (sh (w.1 15) o x)) 16 (sh (w.1 16) o x)) 17 (sh (w.1 17) o x)
def mQ (w : St) (o x : Nat) : St := sA (sA (sA w 18 (sh (w.1 18) o x)) 19 (sh (w.1 19) o x)) 20 (sh (w.1 20) o x)
theorem sA_self {u : St} {k : Nat} : sA u k (u.1 k) = u := by
  refine Prod.ext (funext fun i => ?_) rfl
  show va_up u.1 k (u.1 k) i = u.1 i
  unfold va_up
  by_cases h1 : i = k
  · rw [if_pos h1, h1]
  · rw [if_neg h1]
theorem cQ_0 {w : St} {o : Nat} : cQ w o o = w := by
  unfold cQ; rw [sh_0, sh_0, sh_0, sA_self]
  rw [show sA w 16 (w.1 16) = w from sA_self, sA_self]
theorem mQ_0 {w : St} {o : Nat} : mQ w o o = w := by
  unfold mQ; rw [sh_0, sh_0, sh_0, sA_self]
  rw [show sA w 19 (w.1 19) = w from sA_self, sA_self]
theorem cQ_step {w : St} {o x : Nat} (h : o ≤ x) : sA (sA (sA (cQ w o x) 15 (upd (sh (w.1 15) o x) x (sh (w.1 15) o x (x + 1)))) 16 (upd (sh (w.1 16) o x) x (sh (w.1 16) o x (x + 1)))) 17 (upd (sh (w.1 17) o x) x (sh (w.1 17) o x (x + 1))) = cQ w o (x + 1) := by
  rw [sh_step h, sh_step h, sh_step h]
  unfold cQ
  rw [sA_sw (k := 17) (j := 15) (by decide), sA_sw (k := 16) (j := 15) (by decide), sA_uu, sA_sw (k := 17) (j := 16) (by decide), sA_uu, sA_uu]
theorem mQ_step {w : St} {o x : Nat} (h : o ≤ x) : sA (sA (sA (mQ w o x) 18 (upd (sh (w.1 18) o x) x (sh (w.1 18) o x (x + 1)))) 19 (upd (sh (w.1 19) o x) x (sh (w.1 19) o x (x + 1)))) 20 (upd (sh (w.1 20) o x) x (sh (w.1 20) o x (x + 1))) = mQ w o (x + 1) := by
  rw [sh_step h, sh_step h, sh_step h]
  unfold mQ
  rw [sA_sw (k := 20) (j := 18) (by decide), sA_sw (k := 19) (j := 18) (by decide), sA_uu, sA_sw (k := 20) (j := 19) (by decide), sA_uu, sA_uu]
theorem c_rm {w : St} {o M : Nat} (hM : M < 20) (e : w.2 8 = nI M) : ∀ n x, o ≤ x → x ≤ M → M < x + n → pX2_remove_b12 n (nI x) (cQ w o x) = some (0, cQ w o M) := by
  intro n
  induction n with
  | zero => intro x h1 h2 h3; exact absurd h3 (by omega)
  | succ n ih =>
    intro x h1 h2 h3
    rw [pX2_remove_b12_s]
    rw [show (cQ w o x).2 8 = nI M from e]
    by_cases q : M ≤ x
    · obtain rfl : x = M := by omega
      rw [if_pos (nI_le (Nat.le_refl x) (by omega))]
    · rw [if_neg (nI_ge (show x < M by omega) (by omega)), nI_1]
      have hx : x < 20 := by omega
      have hx1 : x + 1 < 20 := by omega
      rw [rg_n (show x + 1 < rl 15 from hx1), rs_n (show x < rl 15 from hx), rg_n (show x + 1 < rl 16 from hx1), rs_n (show x < rl 16 from hx), rg_n (show x + 1 < rl 17 from hx1), rs_n (show x < rl 17 from hx)]
      have e3 := cQ_step (w := w) h1
      exact (congrArg (pX2_remove_b12 n (nI (x + 1))) e3).trans (ih (x + 1) (by omega) (by omega) (by omega))
theorem m_rm {w : St} {o M : Nat} (hM : M < 20) (e : w.2 6 = nI M) : ∀ n x, o ≤ x → x ≤ M → M < x + n → pX7_removes_b12 n (nI x) (mQ w o x) = some (0, mQ w o M) := by
  intro n
  induction n with
  | zero => intro x h1 h2 h3; exact absurd h3 (by omega)
  | succ n ih =>
    intro x h1 h2 h3
    rw [pX7_removes_b12_s]
    rw [show (mQ w o x).2 6 = nI M from e]
    by_cases q : M ≤ x
    · obtain rfl : x = M := by omega
      rw [if_pos (nI_le (Nat.le_refl x) (by omega))]
    · rw [if_neg (nI_ge (show x < M by omega) (by omega)), nI_1]
      have hx : x < 20 := by omega
      have hx1 : x + 1 < 20 := by omega
      simp only [ckS hx (show 20 < 2 ^ 31 by decide), ckS hx1 (show 20 < 2 ^ 31 by decide), if_false]
      rw [nI_clamp (show x < 2 ^ 31 by omega), nI_clamp (show x + 1 < 2 ^ 31 by omega)]
      have e3 := mQ_step (w := w) h1
      exact (congrArg (pX7_removes_b12 n (nI (x + 1))) e3).trans (ih (x + 1) (by omega) (by omega) (by omega))
theorem c_remove {u : St} {o O : Nat} (e : u.2 8 = nI O) (hO : O ≤ 20) (ho : o < O) : pX2_remove (nI o) u = some (0, cQ (sS u 8 (nI (O - 1))) o (O - 1)) := by
  unfold pX2_remove
  rw [e, nI_sub1 (by omega)]
  have h := c_rm (w := sS u 8 (nI (O - 1))) (o := o) (M := O - 1) (by omega) rfl 100 o (Nat.le_refl o) (by omega) (by omega)
  rw [cQ_0] at h; exact h
theorem m_remove {v : St} {o O : Nat} (e : v.2 6 = nI O) (hO : O ≤ 20) (ho : o < O) : pX7_removes (nI o) v = some (0, mQ (sS v 6 (nI (O - 1))) o (O - 1)) := by
  unfold pX7_removes
  rw [e, nI_sub1 (by omega)]
  have h := m_rm (w := sS v 6 (nI (O - 1))) (o := o) (M := O - 1) (by omega) rfl 100 o (Nat.le_refl o) (by omega) (by omega)
  rw [mQ_0] at h; exact h
theorem rel_remove {u v : St} {N O P o : Nat} (h : RelN N O P u v) (ho : o < O) : RelN N (O - 1) P (cQ (sS u 8 (nI (O - 1))) o (O - 1)) (mQ (sS v 6 (nI (O - 1))) o (O - 1)) := by
  obtain ⟨h1, g2, g3, g4, g5, g6, g7, g8, g9, g10, g11, g12, g13, g14⟩ := id h
  obtain ⟨s1, s2, s3, s4, s5, s6, s7, s8⟩ := h1
  refine ⟨⟨s1, by omega, s3, s4, s5, rfl, rfl, s8⟩, g2, g3, g4, g5, g6, g7, g8, g9, g10, g11, g12, ?_, g14⟩
  intro j hj
  by_cases q : o ≤ j
  · have e : ∀ f : Nat → Int32, sh f o (O - 1) j = f (j + 1) := by
      intro f; unfold sh; rw [if_pos ⟨q, hj⟩]
    show sh (u.1 15) o (O - 1) j = sh (v.1 18) o (O - 1) j ∧ sh (u.1 16) o (O - 1) j = sh (v.1 19) o (O - 1) j ∧ (((sh (v.1 18) o (O - 1) j = 0 ∨ sh (v.1 18) o (O - 1) j = 2) ∧ (∃ x, x < N ∧ sh (v.1 19) o (O - 1) j = nI x) ∧ ∃ s, s < 72 ∧ sh (u.1 17) o (O - 1) j = sN s ∧ sh (v.1 20) o (O - 1) j = nI s) ∨ (sh (v.1 18) o (O - 1) j = 1 ∧ (∃ x, x < N ∧ sh (v.1 19) o (O - 1) j = nI x) ∧ ∃ t, t < 10 ∧ sh (u.1 17) o (O - 1) j = nI t ∧ sh (v.1 20) o (O - 1) j = nI t) ∨ ((sh (v.1 18) o (O - 1) j = 3 ∨ sh (v.1 18) o (O - 1) j = 4) ∧ ∃ y, y < 6 ∧ sh (v.1 19) o (O - 1) j = nI y))
    simp only [e]
    exact g13 (j + 1) (by omega)
  · have e : ∀ f : Nat → Int32, sh f o (O - 1) j = f j := by
      intro f; unfold sh; rw [if_neg (by omega)]
    show sh (u.1 15) o (O - 1) j = sh (v.1 18) o (O - 1) j ∧ sh (u.1 16) o (O - 1) j = sh (v.1 19) o (O - 1) j ∧ (((sh (v.1 18) o (O - 1) j = 0 ∨ sh (v.1 18) o (O - 1) j = 2) ∧ (∃ x, x < N ∧ sh (v.1 19) o (O - 1) j = nI x) ∧ ∃ s, s < 72 ∧ sh (u.1 17) o (O - 1) j = sN s ∧ sh (v.1 20) o (O - 1) j = nI s) ∨ (sh (v.1 18) o (O - 1) j = 1 ∧ (∃ x, x < N ∧ sh (v.1 19) o (O - 1) j = nI x) ∧ ∃ t, t < 10 ∧ sh (u.1 17) o (O - 1) j = nI t ∧ sh (v.1 20) o (O - 1) j = nI t) ∨ ((sh (v.1 18) o (O - 1) j = 3 ∨ sh (v.1 18) o (O - 1) j = 4) ∧ ∃ y, y < 6 ∧ sh (v.1 19) o (O - 1) j = nI y))
    simp only [e]
    exact g13 j (by omega)
theorem sx_drop : Sx_drop Rel := by
  rintro u v ⟨N, O, P, h⟩ a
  obtain ⟨h1, -⟩ := id h
  have hO := h1.2.1
  rcases order_cases hO h1.2.2.2.2.2.1 h1.2.2.2.2.2.2.1 a with ⟨q6, q7⟩ | ⟨o, ho, rfl, q6, q7⟩
  · refine ⟨1, 0, u, 0, sS v 0 1, ?_, Or.inr rfl, ?_, rfl, fun h => absurd h (by decide), N, O, P, h⟩
    · unfold pX6_drop; rw [q6]; rfl
    · unfold pX7_drop pX7_drop_b14; rw [q7, bnd_some, if_pos rfl, t1]
  · have h' : RelN N O P u (sS v 0 0) := h
    have e7 : (sS v 0 0).2 6 = nI O := h1.2.2.2.2.2.2.1
    refine ⟨0, nI (O - 1), _, nI (O - 1), _, ?_, Or.inl rfl, ?_, ?_, fun _ => rfl, N, O - 1, P, rel_remove h' ho⟩
    · unfold pX6_drop; rw [q6, bnd_some, if_neg one0, c_remove h1.2.2.2.2.2.1 hO ho]; rfl
    · unfold pX7_drop pX7_drop_b14; rw [q7, bnd_some, if_neg one0, t0, m_remove e7 hO ho]; rfl
    · rfl
