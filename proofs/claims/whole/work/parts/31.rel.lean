/-! THE RELATION between the class's state u and the reference's v -/
def sumN (n : Nat) (f : Nat → Int32) : Int32 := Nat.rec 0 (fun k s => s + f k) n
def wt (tr : Nat → Int32) (x : Int32) : Int32 := if x = -1 then 0 else tr x.toNatClampNeg
def RSc (N O P : Nat) (x y : Nat → Int32) : Prop := N ≤ 60 ∧ O ≤ 20 ∧ P ≤ 9 ∧ x 6 = nI N ∧ y 4 = nI N ∧ x 8 = nI O ∧ y 6 = nI O ∧ x 1 = nI P ∧ y 5 = nI P ∧ x 0 = y 7 ∧ x 2 = y 8 ∧ x 3 = y 1 ∧ x 4 = y 2 ∧ x 5 = y 3 ∧ 0 ≤ x 3 ∧ 0 ≤ x 4 ∧ 0 ≤ x 5 ∧ ∃ h, h ≤ 1000 ∧ x 0 = nI h
def RBo (N : Nat) (t tr po ki pa wh t' tr' po' ki' pa' wh' : Nat → Int32) : Prop := ∀ b, b < N → t b = t' b ∧ tr b = tr' b ∧ po b = po' b ∧ ki b = ki' b ∧ pa b = pa' b ∧ wh b = wh' b ∧ (∃ w, 1 ≤ w ∧ w ≤ 40 ∧ tr' b = nI w) ∧ (∃ w, 1 ≤ w ∧ w ≤ 40 ∧ t' b = nI w) ∧ (∃ p, p ≤ 9 ∧ po' b = nI p) ∧ (∃ k, k ≤ 4 ∧ ki' b = nI k)
def RPl (N : Nat) (wh' pl pl' : Nat → Int32) : Prop := ∀ b, b < N → (wh' b = 0 ∧ ∃ t, t < 10 ∧ pl b = nI t ∧ pl' b = nI t) ∨ (wh' b = 1 ∧ ∃ s, s < 72 ∧ pl b = sN s ∧ pl' b = nI s) ∨ (wh' b = 2 ∧ pl b = -1)
def RYd (N : Nat) (wh' pl' hg hd hg' hd' : Nat → Int32) : Prop := ∀ t, t < 10 → ∃ h, h ≤ 4 ∧ hg t = nI h ∧ hg' t = nI h ∧ (∀ k, k < h → hd (4 * t + k) = hd' (4 * t + k) ∧ ∃ b, b < N ∧ hd' (4 * t + k) = nI b ∧ wh' b = 0 ∧ pl' b = nI t) ∧ (∀ i k, i < h → k < h → hd' (4 * t + i) = hd' (4 * t + k) → i = k) ∧ (∀ b, b < N → wh' b = 0 → pl' b = nI t → ∃ k, k < h ∧ hd' (4 * t + k) = nI b)
def RSl (N : Nat) (wh' pl' sl sl' : Nat → Int32) : Prop := (∀ s, s < 72 → sl s = sl' s ∧ (sl' s = -1 ∨ ∃ b, b < N ∧ sl' s = nI b ∧ wh' b = 1 ∧ pl' b = nI s)) ∧ ∀ b, b < N → wh' b = 1 → ∃ s, s < 72 ∧ pl' b = nI s ∧ sl' s = nI b
def RFl (n : Nat) (f f' : Nat → Int32) : Prop := ∀ i, i < n → f i = f' i ∧ (f' i = 0 ∨ f' i = 1)
def REq (n : Nat) (f f' : Nat → Int32) : Prop := ∀ i, i < n → f i = f' i
def RWt (w w' : Nat → Int32) : Prop := ∀ i, i < 6 → w i = w' i ∧ ∃ k, k ≤ 99 ∧ w' i = nI k
def RLd (ld : Nat → Int32) (he : Int32) (sl' w' tr' : Nat → Int32) : Prop := (∀ i, i < 6 → ld i = w' i + sumN 12 (fun k => wt tr' (sl' (12 * i + k)))) ∧ he = sumN 72 (fun s => wt tr' (sl' s) * (nI (s / 4 % 3) - 1))
def RCr (f t l f' t' l' : Nat → Int32) : Prop := ∀ c, c < 2 → f c = f' c ∧ t c = t' c ∧ l c = l' c ∧ ∃ n, n ≤ 4 ∧ l' c = nI n
def RQu (N O : Nat) (w i p w' i' g' : Nat → Int32) : Prop := ∀ o, o < O → w o = w' o ∧ i o = i' o ∧ (((w' o = 0 ∨ w' o = 2) ∧ (∃ b, b < N ∧ i' o = nI b) ∧ ∃ s, s < 72 ∧ p o = sN s ∧ g' o = nI s) ∨ (w' o = 1 ∧ (∃ b, b < N ∧ i' o = nI b) ∧ ∃ t, t < 10 ∧ p o = nI t ∧ g' o = nI t) ∨ ((w' o = 3 ∨ w' o = 4) ∧ ∃ y, y < 6 ∧ i' o = nI y))
def RPz (N : Nat) (pa : Nat → Int32) : Prop := ∀ b, N ≤ b → b < 60 → pa b = 0
/-- over an open hatch there is nothing -/
def RHt (sl' op' : Nat → Int32) : Prop := ∀ s, s < 72 → 2 ≤ s % 4 → sl' s = -1 ∨ op' (s / 12) = 0
def RelN (N O P : Nat) (u v : St) : Prop := RSc N O P u.2 v.2 ∧ RBo N (u.1 0) (u.1 1) (u.1 2) (u.1 3) (u.1 4) (u.1 5) (v.1 5) (v.1 6) (v.1 7) (v.1 8) (v.1 9) (v.1 10) ∧ RPl N (v.1 10) (u.1 6) (v.1 11) ∧ RYd N (v.1 10) (v.1 11) (u.1 7) (u.1 8) (v.1 12) (v.1 13) ∧ RSl N (v.1 10) (v.1 11) (u.1 13) (v.1 0) ∧ RFl 72 (u.1 14) (v.1 1) ∧ RFl 6 (u.1 9) (v.1 2) ∧ REq 6 (u.1 10) (v.1 3) ∧ RWt (u.1 11) (v.1 4) ∧ RLd (u.1 12) (u.2 7) (v.1 0) (v.1 4) (v.1 6) ∧ RFl 10 (u.1 21) (v.1 14) ∧ RCr (u.1 18) (u.1 19) (u.1 20) (v.1 15) (v.1 16) (v.1 17) ∧ RQu N O (u.1 15) (u.1 16) (u.1 17) (v.1 18) (v.1 19) (v.1 20) ∧ RPz N (u.1 4) ∧ RHt (v.1 0) (v.1 2)
def Rel (u v : St) : Prop := ∃ N O P, RelN N O P u v
theorem Rel.thr {N O P : Nat} {u v : St} (h : RelN N O P u v) (x : Int32) : RelN N O P u (sS v 0 x) := h
theorem Rel.thr2 {u v : St} (h : Rel u v) (x : Int32) : Rel u (sS v 0 x) := h
theorem RSc.N60 {N O P : Nat} {x y : Nat → Int32} (h : RSc N O P x y) : N ≤ 60 := h.1
/-- reads of the class -/
theorem c_boxIn {u : St} {s : Nat} (hs : s < 72) : pX4_boxIn (sN s) u = some (u.1 13 s, u) := by
  unfold pX4_boxIn; rw [(sN_facts s hs).1, rg_n (show s < rl 13 from hs)]
theorem c_isOpen {u : St} {i : Nat} (hi : i < 6) : pX4_isOpen (nI i) u = some (if u.1 9 i = 1 then 1 else 0, u) := by
  unfold pX4_isOpen; rw [rg_n (show i < rl 9 from hi)]; split <;> rfl
theorem c_hasPlug {u : St} {s : Nat} (hs : s < 72) : pX4_hasPlug (sN s) u = some (if u.1 14 s = 1 then 1 else 0, u) := by
  unfold pX4_hasPlug; rw [(sN_facts s hs).1, rg_n (show s < rl 14 from hs)]; split <;> rfl
theorem c_isHeld {u : St} {b : Nat} (hb : b < 60) : pX0_isHeld (nI b) u = some (if u.1 4 b = 7 then 0 else 1, u) := by
  unfold pX0_isHeld; rw [rg_n (show b < rl 4 from hb)]; split <;> rfl
theorem m_isHeld {v : St} {b : Nat} (hb : b < 60) : pX7_isHeld (nI b) v = some (if v.1 9 b = 7 then 0 else 1, v) := by
  unfold pX7_isHeld; rw [ck hb (by decide), nI_clamp (by omega)]; split <;> rfl
theorem c_isJammed {u : St} {i : Nat} (hi : i < 6) : pX6_isJammed (nI i) u = some (if u.1 10 i ≤ u.2 0 then 0 else 1, u) := by
  unfold pX6_isJammed; rw [rg_n (show i < rl 10 from hi)]; split <;> rfl
theorem c_isAhead {u : St} {p P : Nat} (hp : p < 10) (hP : P ≤ 9) (e : u.2 1 = nI P) : pX6_isAhead (nI p) u = some (if P < p ∧ u.1 21 p = 0 then 1 else 0, u) := by
  unfold pX6_isAhead pX6_isAhead_b23
  rw [e, rg_n (show p < rl 21 from hp)]
  by_cases h1 : P < p
  · rw [if_neg (nI_ge h1 (by omega))]
    by_cases h2 : u.1 21 p = 0
    · rw [if_pos h2, if_pos ⟨h1, h2⟩]
    · rw [if_neg h2, if_neg (fun h => h2 h.2)]
  · rw [if_pos (nI_le (by omega) (by omega)), if_neg (fun h => h1 h.1)]
theorem m_isAhead {v : St} {p P : Nat} (hp : p < 10) (hP : P ≤ 9) (e : v.2 5 = nI P) : pX7_isAhead (nI p) v = some (if P < p ∧ v.1 14 p = 0 then 1 else 0, v) := by
  unfold pX7_isAhead pX7_isAhead_b21
  rw [e, ck hp (by decide), nI_clamp (by omega)]
  by_cases h1 : P < p
  · rw [if_neg (nI_ge h1 (by omega))]
    by_cases h2 : v.1 14 p = 0
    · rw [if_pos h2, if_pos ⟨h1, h2⟩]
    · rw [if_neg h2, if_neg (fun h => h2 h.2)]
  · rw [if_pos (nI_le (by omega) (by omega)), if_neg (fun h => h1 h.1)]
theorem box_cases {u v : St} {N : Nat} (hN : N ≤ 60) (e : u.2 6 = nI N) (e' : v.2 4 = nI N) (a : Int32) : (pX6_isBox a u = some (0, u) ∧ pX7_isBox a v = some (0, v)) ∨ ∃ b, b < N ∧ a = nI b ∧ pX6_isBox a u = some (1, u) ∧ pX7_isBox a v = some (1, v) := by
  have hz : ∀ w : Int32, w = 0 ∨ w = 1 → pX7_in a 0 (nI N - 1) = w → pX7_isBox a v = some (w, v) := by
    intro w hw h
    unfold pX7_isBox; rw [e', h, if_pos hw]
  rcases i_cases a N (by omega) with (h | h) | ⟨b, hb, rfl⟩
  · refine Or.inl ⟨?_, hz 0 (Or.inl rfl) (if_pos h)⟩
    unfold pX6_isBox pX6_isBox_b19; rw [if_pos h]
  · have h0 : ¬ a < 0 := by
      intro h0
      exact absurd (Int32.lt_of_lt_of_le h0 (nI_pos' (show N < 2 ^ 31 by omega))) (Int32.not_lt.mpr h)
    refine Or.inl ⟨?_, hz 0 (Or.inl rfl) ?_⟩
    · unfold pX6_isBox pX6_isBox_b19; rw [if_neg h0, e, if_pos h]
    · have h1 : nI N - 1 < a := by
        cases N with
        | zero => exact Int32.lt_of_lt_of_le (show nI 0 - 1 < 0 by decide) (Int32.not_lt.mp h0)
        | succ n => rw [nI_pred]; exact Int32.lt_of_lt_of_le (nI_lt (Nat.lt_succ_self n) (by omega)) h
      show (if a < 0 then 0 else if nI N - 1 < a then (0 : Int32) else 1) = 0
      rw [if_neg h0, if_pos h1]
  · refine Or.inr ⟨b, hb, rfl, ?_, hz 1 (Or.inr rfl) ?_⟩
    · unfold pX6_isBox pX6_isBox_b19; rw [if_neg (nI_pos (by omega)), e, if_neg (nI_ge hb (by omega))]
    · have h1 : ¬ nI N - 1 < nI b := by
        cases N with
        | zero => exact absurd hb (by omega)
        | succ n => rw [nI_pred]; exact nI_nlt (by omega) (by omega)
      show (if nI b < 0 then 0 else if nI N - 1 < nI b then (0 : Int32) else 1) = 1
      rw [if_neg (nI_pos (by omega)), if_neg h1]
theorem order_cases {u v : St} {N : Nat} (hN : N ≤ 20) (e : u.2 8 = nI N) (e' : v.2 6 = nI N) (a : Int32) : (pX6_isOrder a u = some (0, u) ∧ pX7_isOrder a v = some (0, v)) ∨ ∃ b, b < N ∧ a = nI b ∧ pX6_isOrder a u = some (1, u) ∧ pX7_isOrder a v = some (1, v) := by
  have hz : ∀ w : Int32, w = 0 ∨ w = 1 → pX7_in a 0 (nI N - 1) = w → pX7_isOrder a v = some (w, v) := by
    intro w hw h
    unfold pX7_isOrder; rw [e', h, if_pos hw]
  rcases i_cases a N (by omega) with (h | h) | ⟨b, hb, rfl⟩
  · refine Or.inl ⟨?_, hz 0 (Or.inl rfl) (if_pos h)⟩
    unfold pX6_isOrder pX6_isOrder_b19; rw [if_pos h]
  · have h0 : ¬ a < 0 := by
      intro h0
      exact absurd (Int32.lt_of_lt_of_le h0 (nI_pos' (show N < 2 ^ 31 by omega))) (Int32.not_lt.mpr h)
    refine Or.inl ⟨?_, hz 0 (Or.inl rfl) ?_⟩
    · unfold pX6_isOrder pX6_isOrder_b19; rw [if_neg h0, e, if_pos h]
    · have h1 : nI N - 1 < a := by
        cases N with
        | zero => exact Int32.lt_of_lt_of_le (show nI 0 - 1 < 0 by decide) (Int32.not_lt.mp h0)
        | succ n => rw [nI_pred]; exact Int32.lt_of_lt_of_le (nI_lt (Nat.lt_succ_self n) (by omega)) h
      show (if a < 0 then 0 else if nI N - 1 < a then (0 : Int32) else 1) = 0
      rw [if_neg h0, if_pos h1]
  · refine Or.inr ⟨b, hb, rfl, ?_, hz 1 (Or.inr rfl) ?_⟩
    · unfold pX6_isOrder pX6_isOrder_b19; rw [if_neg (nI_pos (by omega)), e, if_neg (nI_ge hb (by omega))]
    · have h1 : ¬ nI N - 1 < nI b := by
        cases N with
        | zero => exact absurd hb (by omega)
        | succ n => rw [nI_pred]; exact nI_nlt (by omega) (by omega)
      show (if nI b < 0 then 0 else if nI N - 1 < nI b then (0 : Int32) else 1) = 1
      rw [if_neg (nI_pos (by omega)), if_neg h1]
/-- the plain numbers -/
theorem sx_hour : Sx_hour Rel := fun u v ⟨N, O, P, h⟩ => ⟨u.2 0, u, sS v 0 0, rfl, by rw [h.1.2.2.2.2.2.2.2.2.2.1]; rfl, N, O, P, h⟩
theorem sx_port : Sx_port Rel := fun u v ⟨N, O, P, h⟩ => ⟨u.2 1, u, sS v 0 0, rfl, by rw [h.1.2.2.2.2.2.2.2.1, ← h.1.2.2.2.2.2.2.2.2.1]; rfl, N, O, P, h⟩
theorem sx_cost : Sx_cost Rel := fun u v ⟨N, O, P, h⟩ => ⟨u.2 2, u, sS v 0 0, rfl, by rw [h.1.2.2.2.2.2.2.2.2.2.2.1]; rfl, N, O, P, h⟩
theorem sx_orders : Sx_orders Rel := fun u v ⟨N, O, P, h⟩ => ⟨u.2 8, u, sS v 0 0, rfl, by rw [h.1.2.2.2.2.2.1, ← h.1.2.2.2.2.2.2.1]; rfl, N, O, P, h⟩
