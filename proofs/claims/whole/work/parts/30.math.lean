/-! THE MATHEMATICS: plain facts on the pure functions. Numbers, slots. -/
theorem i_cases (a : Int32) (n : Nat) (hn : n < 2 ^ 31) : (a < 0 ∨ nI n ≤ a) ∨ ∃ i, i < n ∧ a = nI i := by
  by_cases h0 : a < 0
  · exact Or.inl (Or.inl h0)
  · obtain ⟨j, hj, rfl⟩ := nI_of h0
    rcases Nat.lt_or_ge j n with h | h
    · exact Or.inr ⟨j, h, rfl⟩
    · exact Or.inl (Or.inr (nI_le h hj))
theorem in_cases (a : Int32) (lo hi : Nat) (hn : hi < 2 ^ 31 - 1) (hlo : lo < 2 ^ 31) : pX7_in a (nI lo) (nI hi) = 0 ∨ ∃ i, lo ≤ i ∧ i ≤ hi ∧ a = nI i ∧ pX7_in a (nI lo) (nI hi) = 1 := by
  show (if a < nI lo then 0 else if nI hi < a then (0 : Int32) else 1) = 0 ∨ _
  by_cases h1 : a < nI lo
  · exact Or.inl (if_pos h1)
  · by_cases h2 : nI hi < a
    · exact Or.inl (by rw [if_neg h1, if_pos h2])
    · have h0 : ¬ a < 0 := by
        intro h
        exact h1 (Int32.lt_of_lt_of_le h (nI_pos' hlo))
      obtain ⟨j, hj, rfl⟩ := nI_of h0
      have h1' : lo ≤ j := by
        rcases Nat.lt_or_ge j lo with h | h
        · exact absurd (nI_lt h hlo) h1
        · exact h
      have h2' : j ≤ hi := by
        rcases Nat.lt_or_ge hi j with h | h
        · exact absurd (nI_lt h hj) h2
        · exact h
      refine Or.inr ⟨j, h1', h2', rfl, ?_⟩
      show (if nI j < nI lo then 0 else if nI hi < nI j then (0 : Int32) else 1) = 1
      rw [if_neg h1, if_neg h2]
theorem isWithin_eq (a b c : Int32) : pX6_isWithin a b c = pX7_in a b c := rfl
theorem bay_cases (a : Int32) : (pX6_isBay a = 0 ∧ pX7_isBay a = 0) ∨ ∃ i, i < 6 ∧ a = nI i ∧ pX6_isBay a = 1 ∧ pX7_isBay a = 1 := by
  rcases i_cases a 6 (by decide) with (h | h) | ⟨i, hi, rfl⟩
  · refine Or.inl ⟨if_pos h, if_pos h⟩
  · have h0 : ¬ a < 0 := by
      intro h0
      exact absurd (Int32.lt_of_lt_of_le h0 (show (0 : Int32) ≤ nI 6 by decide)) (Int32.not_lt.mpr h)
    refine Or.inl ⟨(if_neg h0).trans (if_pos h), (if_neg h0).trans (if_pos (Int32.lt_of_lt_of_le (show (5 : Int32) < nI 6 by decide) h))⟩
  · have h9 : ∀ i, i < 6 → pX6_isBay (nI i) = 1 ∧ pX7_isBay (nI i) = 1 := by decide +kernel
    exact Or.inr ⟨i, hi, rfl, h9 i hi⟩
theorem stack_cases (a : Int32) : (pX6_isStack a = 0 ∧ pX7_isStack a = 0) ∨ ∃ i, i < 10 ∧ a = nI i ∧ pX6_isStack a = 1 ∧ pX7_isStack a = 1 := by
  rcases i_cases a 10 (by decide) with (h | h) | ⟨i, hi, rfl⟩
  · refine Or.inl ⟨if_pos h, if_pos h⟩
  · have h0 : ¬ a < 0 := by
      intro h0
      exact absurd (Int32.lt_of_lt_of_le h0 (show (0 : Int32) ≤ nI 10 by decide)) (Int32.not_lt.mpr h)
    refine Or.inl ⟨(if_neg h0).trans (if_pos h), (if_neg h0).trans (if_pos (Int32.lt_of_lt_of_le (show (9 : Int32) < nI 10 by decide) h))⟩
  · have h9 : ∀ i, i < 10 → pX6_isStack (nI i) = 1 ∧ pX7_isStack (nI i) = 1 := by decide +kernel
    exact Or.inr ⟨i, hi, rfl, h9 i hi⟩
theorem crane_cases (a : Int32) : (pX6_isCrane a = 0 ∧ pX7_isCrane a = 0) ∨ ∃ i, i < 2 ∧ a = nI i ∧ pX6_isCrane a = 1 ∧ pX7_isCrane a = 1 := by
  rcases i_cases a 2 (by decide) with (h | h) | ⟨i, hi, rfl⟩
  · refine Or.inl ⟨if_pos h, if_pos h⟩
  · have h0 : ¬ a < 0 := by
      intro h0
      exact absurd (Int32.lt_of_lt_of_le h0 (show (0 : Int32) ≤ nI 2 by decide)) (Int32.not_lt.mpr h)
    refine Or.inl ⟨(if_neg h0).trans (if_pos h), (if_neg h0).trans (if_pos (Int32.lt_of_lt_of_le (show (1 : Int32) < nI 2 by decide) h))⟩
  · have h9 : ∀ i, i < 2 → pX6_isCrane (nI i) = 1 ∧ pX7_isCrane (nI i) = 1 := by decide +kernel
    exact Or.inr ⟨i, hi, rfl, h9 i hi⟩
/-- the slot's number of the place s -/
def sN (s : Nat) : Int32 := nI (100 * (s / 12) + 10 * (s / 4 % 3) + s % 4)
theorem slot_cases (a : Int32) : (pX6_isSlot a = 0 ∧ pX7_isSlot a = 0) ∨ ∃ s, s < 72 ∧ a = sN s ∧ pX6_isSlot a = 1 ∧ pX7_isSlot a = 1 := by
  by_cases h0 : a < 0
  · refine Or.inl ⟨if_pos h0, ?_⟩
    have e : pX7_in a 0 523 = 0 := if_pos h0
    show (if pX7_in a 0 523 = 0 then _ else _) = _
    rw [if_pos e]; rfl
  · obtain ⟨n, hn, rfl⟩ := nI_of h0
    rcases Nat.lt_or_ge n 600 with h | h
    · have h9 : ∀ n, n < 600 → (pX6_isSlot (nI n) = 0 ∧ pX7_isSlot (nI n) = 0) ∨ (12 * (n / 100) + 4 * (n / 10 % 10) + n % 10 < 72 ∧ nI n = sN (12 * (n / 100) + 4 * (n / 10 % 10) + n % 10) ∧ pX6_isSlot (nI n) = 1 ∧ pX7_isSlot (nI n) = 1) := by decide +kernel
      rcases h9 n h with h9 | h9
      · exact Or.inl h9
      · exact Or.inr ⟨_, h9⟩
    · refine Or.inl ⟨?_, ?_⟩
      · have e : pX6_bayOf (nI n) = nI (n / 100) := pk_div hn (by decide) (by decide)
        have h6 : 6 ≤ pX6_bayOf (nI n) := by
          rw [e]; exact nI_le (show 6 ≤ n / 100 by omega) (by omega)
        show (if nI n < 0 then _ else if 6 ≤ pX6_bayOf (nI n) then _ else _) = _
        rw [if_neg h0, if_pos h6]; rfl
      · have e : pX7_in (nI n) 0 523 = 0 := by
          show (if nI n < 0 then 0 else if 523 < nI n then (0 : Int32) else 1) = 0
          rw [if_neg h0, if_pos (show (523 : Int32) < nI n from nI_lt (show 523 < n by omega) hn)]
        show (if pX7_in (nI n) 0 523 = 0 then _ else _) = _
        rw [if_pos e]; rfl
/-- what a slot's number tells -/
theorem sN_facts : ∀ s, s < 72 → pX4_cellOf (sN s) = nI s ∧ pX7_indexOf (sN s) = nI s ∧ pX6_bayOf (sN s) = nI (s / 12) ∧ pX6_rowOf (sN s) = nI (s / 4 % 3) ∧ pX6_tierOf (sN s) = nI (s % 4) ∧ pX6_isUnderHatch (sN s) = (if s % 4 < 2 then 1 else 0) ∧ pX6_restsOnBox (sN s) = (if s % 2 = 1 then 1 else 0) ∧ pX7_slotOf (nI s) = sN s ∧ (s % 2 = 0 → pX4_cellOf (sN s + 1) = nI (s + 1)) ∧ (s % 2 = 1 → pX4_cellOf (sN s - 1) = nI (s - 1)) := by decide +kernel
theorem sN_inj : ∀ s, s < 72 → ∀ t, t < 72 → sN s = sN t → s = t := by
  intro s hs t ht h
  have h1 := (sN_facts s hs).1
  rw [h, (sN_facts t ht).1] at h1
  exact ((nI_eq (by omega) (by omega)).mp h1).symm
/-- rows of the class at a number within -/
theorem rget_n {n : Nat} {f : Nat → Int32} {i : Nat} (h : i < n) (hn : n < 2 ^ 31) : rget n f (nI i) = f i := by
  unfold rget
  rw [if_neg (nI_pos (by omega)), if_neg (nI_ge h hn), nI_clamp (by omega)]
theorem rg_n {u : St} {k i : Nat} (h : i < rl k) : rg u k (nI i) = u.1 k i := rget_n h (rl_lt k)
theorem rs_n {u : St} {k i : Nat} {x : Int32} (h : i < rl k) : rs u k (nI i) x = sA u k (upd (u.1 k) i x) := by
  have hk := rl_lt k
  unfold rs rset
  rw [if_neg (nI_pos (by omega)), if_neg (nI_ge h hk), nI_clamp (by omega)]
theorem ra_n {u : St} {k i : Nat} {x : Int32} (h : i < rl k) : ra u k (nI i) x = sA u k (upd (u.1 k) i (u.1 k i + x)) := by
  have hk := rl_lt k
  unfold ra radd
  rw [if_neg (nI_pos (by omega)), if_neg (nI_ge h hk), nI_clamp (by omega)]
theorem ck {i n : Nat} (h : i < n) (hn : n < 2 ^ 31) {α : Type} {a b : α} : (if (nI i < 0 ∨ n ≤ (nI i).toNatClampNeg) then a else b) = b := if_neg (nI_in h hn)
theorem bnd_some {α β γ : Type} {a : α} {b : β} {f : α → β → Option γ} : bnd (some (a, b)) f = f a b := rfl
theorem bool2 {x : Int32} (h : x = 0 ∨ x = 1) {α : Type} {a b : α} : (if x = 0 ∨ x = 1 then a else b) = a := if_pos h
theorem inL (a lo hi : Int32) (l h : Nat) (el : lo = nI l) (eh : hi = nI h) (hn : h < 2 ^ 31 - 1) (hlo : l < 2 ^ 31) : pX7_in a lo hi = 0 ∨ ∃ i, l ≤ i ∧ i ≤ h ∧ a = nI i ∧ pX7_in a lo hi = 1 := by
  subst el eh; exact in_cases a l h hn hlo
theorem ckS {i n : Nat} (h : i < n) (hn : n < 2 ^ 31) : (nI i < 0 ∨ n ≤ (nI i).toNatClampNeg) = False := eq_false (nI_in h hn)
theorem ckS2 {i n : Nat} (h : i < n) (hn : n < 2 ^ 31) : (nI i < 0 ∨ n ≤ i) = False := by
  have h1 := ckS h hn
  rwa [nI_clamp (by omega)] at h1
