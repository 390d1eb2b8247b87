/-! WHAT A MOVE DOES to the parts of the relation -/
theorem sumN_congr {n : Nat} {f g : Nat → Int32} (h : ∀ i, i < n → f i = g i) : sumN n f = sumN n g := by
  induction n with
  | zero => rfl
  | succ n ih =>
    show sumN n f + f n = sumN n g + g n
    rw [ih (fun i hi => h i (by omega)), h n (by omega)]
theorem sumN_one {n i : Nat} {f g : Nat → Int32} (hi : i < n) (h : ∀ k, k < n → k ≠ i → g k = f k) : sumN n g = sumN n f - f i + g i := by
  induction n with
  | zero => exact absurd hi (by omega)
  | succ n ih =>
    show sumN n g + g n = sumN n f + f n - f i + g i
    by_cases e : i = n
    · subst e
      rw [sumN_congr (fun k hk => h k (by omega) (by omega))]; grind
    · rw [ih (by omega) (fun k hk => h k (by omega)), h n (by omega) (fun q => e q.symm)]; grind
theorem nI_inj {a b : Nat} (ha : a < 2 ^ 31) (hb : b < 2 ^ 31) (h : nI a = nI b) : a = b := (nI_eq ha hb).mp h
theorem yd_push {N N' b t k : Nat} {wh pl hg hd hg' hd' : Nat → Int32} (h : RYd N wh pl hg hd hg' hd') (h60 : N' ≤ 60) (hb : b < N') (hN : ∀ x, x < N' → x ≠ b → x < N) (hNN : N ≤ N') (hw : b < N → wh b ≠ 0) (ht : t < 10) (ek : hg' t = nI k) (hk : k < 4) : RYd N' (upd wh b 0) (upd pl b (nI t)) (upd hg t (nI (k + 1))) (upd hd (4 * t + k) (nI b)) (upd hg' t (nI (k + 1))) (upd hd' (4 * t + k) (nI b)) := by
  intro t' ht'
  obtain ⟨h0, h4, e1, e2, A, B, C⟩ := h t' ht'
  have old : ∀ c, c < N → wh c = 0 → c ≠ b := fun c hc h0 e => by subst e; exact hw hc h0
  by_cases e : t' = t
  · subst e
    obtain rfl : h0 = k := nI_inj (by omega) (by omega) (e2.symm.trans ek)
    refine ⟨h0 + 1, by omega, pk_us, pk_us, fun j hj => ?_, fun i j hi hj hij => ?_, fun x hx hx0 hxt => ?_⟩
    · by_cases ej : j = h0
      · subst ej; rw [pk_us, pk_us]
        exact ⟨rfl, b, hb, rfl, pk_us, pk_us⟩
      · rw [pk_un (by omega), pk_un (by omega)]
        obtain ⟨q1, c, q2, q3, q4, q5⟩ := A j (by omega)
        have hcb := old c q2 q4
        exact ⟨q1, c, by omega, q3, by rw [pk_un hcb]; exact q4, by rw [pk_un hcb]; exact q5⟩
    · by_cases ei : i = h0
      · by_cases ej : j = h0
        · omega
        · subst ei
          rw [pk_us, pk_un (by omega)] at hij
          obtain ⟨-, c, q2, q3, q4, -⟩ := A j (by omega)
          rw [q3] at hij
          exact absurd (nI_inj (by omega) (by omega) hij).symm (old c q2 q4)
      · by_cases ej : j = h0
        · subst ej
          rw [pk_us, pk_un (by omega)] at hij
          obtain ⟨-, c, q2, q3, q4, -⟩ := A i (by omega)
          rw [q3] at hij
          exact absurd (nI_inj (by omega) (by omega) hij) (old c q2 q4)
        · rw [pk_un (by omega), pk_un (by omega)] at hij
          exact B i j (by omega) (by omega) hij
    · by_cases ex : x = b
      · subst ex; exact ⟨h0, by omega, pk_us⟩
      · rw [pk_un ex] at hx0 hxt
        obtain ⟨j, hj, q⟩ := C x (hN x hx ex) hx0 hxt
        exact ⟨j, by omega, by rw [pk_un (by omega)]; exact q⟩
  · refine ⟨h0, h4, by rw [pk_un e]; exact e1, by rw [pk_un e]; exact e2, fun j hj => ?_, fun i j hi hj hij => ?_, fun x hx hx0 hxt => ?_⟩
    · rw [pk_un (by omega), pk_un (by omega)]
      obtain ⟨q1, c, q2, q3, q4, q5⟩ := A j hj
      have hcb := old c q2 q4
      exact ⟨q1, c, by omega, q3, by rw [pk_un hcb]; exact q4, by rw [pk_un hcb]; exact q5⟩
    · rw [pk_un (by omega), pk_un (by omega)] at hij
      exact B i j hi hj hij
    · by_cases ex : x = b
      · subst ex; rw [pk_us] at hxt
        exact absurd (nI_inj (by omega) (by omega) hxt).symm e
      · rw [pk_un ex] at hx0 hxt
        obtain ⟨j, hj, q⟩ := C x (hN x hx ex) hx0 hxt
        exact ⟨j, hj, by rw [pk_un (by omega)]; exact q⟩
theorem yd_pop {N b t k : Nat} {x y : Int32} {wh pl hg hd hg' hd' : Nat → Int32} (h : RYd N wh pl hg hd hg' hd') (h60 : N ≤ 60) (hb : b < N) (ht : t < 10) (ek : hg' t = nI (k + 1)) (top : hd' (4 * t + k) = nI b) (hk : k < 4) (hx : x ≠ 0) : RYd N (upd wh b x) (upd pl b y) (upd hg t (nI k)) hd (upd hg' t (nI k)) hd' := by
  have hbt : wh b = 0 ∧ pl b = nI t := by
    obtain ⟨h0, h4, e1, e2, A, B, C⟩ := h t ht
    obtain rfl : h0 = k + 1 := nI_inj (by omega) (by omega) (e2.symm.trans ek)
    obtain ⟨-, c, q2, q3, q4, q5⟩ := A k (by omega)
    rw [top] at q3
    obtain rfl : b = c := nI_inj (by omega) (by omega) q3
    exact ⟨q4, q5⟩
  intro t' ht'
  obtain ⟨h0, h4, e1, e2, A, B, C⟩ := h t' ht'
  by_cases e : t' = t
  · subst e
    obtain rfl : h0 = k + 1 := nI_inj (by omega) (by omega) (e2.symm.trans ek)
    refine ⟨k, by omega, pk_us, pk_us, fun j hj => ?_, fun i j hi hj hij => B i j (by omega) (by omega) hij, fun z hz hz0 hzt => ?_⟩
    · obtain ⟨q1, c, q2, q3, q4, q5⟩ := A j (by omega)
      have hcb : c ≠ b := by
        intro e9; subst e9
        have := B j k (by omega) (by omega) (q3.trans top.symm)
        omega
      exact ⟨q1, c, q2, q3, by rw [pk_un hcb]; exact q4, by rw [pk_un hcb]; exact q5⟩
    · by_cases ez : z = b
      · subst ez; rw [pk_us] at hz0; exact absurd hz0 hx
      · rw [pk_un ez] at hz0 hzt
        obtain ⟨j, hj, q⟩ := C z hz hz0 hzt
        have : j ≠ k := by
          intro e9; subst e9
          exact ez (nI_inj (by omega) (by omega) (q.symm.trans top))
        exact ⟨j, by omega, q⟩
  · refine ⟨h0, h4, by rw [pk_un e]; exact e1, by rw [pk_un e]; exact e2, fun j hj => ?_, B, fun z hz hz0 hzt => ?_⟩
    · obtain ⟨q1, c, q2, q3, q4, q5⟩ := A j hj
      have hcb : c ≠ b := by
        intro e9; subst e9
        exact e (nI_inj (by omega) (by omega) (q5.symm.trans hbt.2))
      exact ⟨q1, c, q2, q3, by rw [pk_un hcb]; exact q4, by rw [pk_un hcb]; exact q5⟩
    · by_cases ez : z = b
      · subst ez; rw [pk_us] at hz0; exact absurd hz0 hx
      · rw [pk_un ez] at hz0 hzt
        exact C z hz hz0 hzt
theorem yd_keep {N N' b : Nat} {x y : Int32} {wh pl hg hd hg' hd' : Nat → Int32} (h : RYd N wh pl hg hd hg' hd') (hN : ∀ x, x < N' → x ≠ b → x < N) (hNN : N ≤ N') (hw : b < N → wh b ≠ 0) (hx : x ≠ 0) : RYd N' (upd wh b x) (upd pl b y) hg hd hg' hd' := by
  intro t' ht'
  obtain ⟨h0, h4, e1, e2, A, B, C⟩ := h t' ht'
  refine ⟨h0, h4, e1, e2, fun j hj => ?_, B, fun z hz hz0 hzt => ?_⟩
  · obtain ⟨q1, c, q2, q3, q4, q5⟩ := A j hj
    have hcb : c ≠ b := by
      intro e9; subst e9; exact hw q2 q4
    exact ⟨q1, c, by omega, q3, by rw [pk_un hcb]; exact q4, by rw [pk_un hcb]; exact q5⟩
  · by_cases ez : z = b
    · subst ez; rw [pk_us] at hz0; exact absurd hz0 hx
    · rw [pk_un ez] at hz0 hzt
      exact C z (hN z hz ez) hz0 hzt
theorem sl_put {N b s : Nat} {wh pl sl sl' : Nat → Int32} (h : RSl N wh pl sl sl') (h60 : N ≤ 60) (hb : b < N) (hw : wh b ≠ 1) (hs : s < 72) (free : sl' s = -1) : RSl N (upd wh b 1) (upd pl b (nI s)) (upd sl s (nI b)) (upd sl' s (nI b)) := by
  refine ⟨fun z hz => ?_, fun c hc hc1 => ?_⟩
  · by_cases e : z = s
    · subst e; simp only [pk_us]; exact ⟨trivial, Or.inr ⟨b, hb, rfl, pk_us, pk_us⟩⟩
    · simp only [pk_un e]
      obtain ⟨q1, q2⟩ := h.1 z hz
      refine ⟨q1, q2.imp_right ?_⟩
      rintro ⟨c, c1, c2, c3, c4⟩
      have hcb : c ≠ b := by
        intro e9; subst e9; exact hw c3
      exact ⟨c, c1, c2, by rw [pk_un hcb]; exact c3, by rw [pk_un hcb]; exact c4⟩
  · by_cases e : c = b
    · subst e; exact ⟨s, hs, pk_us, pk_us⟩
    · rw [pk_un e] at hc1
      obtain ⟨z, z1, z2, z3⟩ := h.2 c hc hc1
      refine ⟨z, z1, by rw [pk_un e]; exact z2, ?_⟩
      rw [pk_un (fun e9 => by subst e9; rw [free] at z3; exact nI_m1 (by omega) z3.symm)]; exact z3
theorem sl_take {N b s : Nat} {x y : Int32} {wh pl sl sl' : Nat → Int32} (h : RSl N wh pl sl sl') (h60 : N ≤ 60) (hb : b < N) (hs : s < 72) (hat : sl' s = nI b) (hx : x ≠ 1) : RSl N (upd wh b x) (upd pl b y) (upd sl s (-1)) (upd sl' s (-1)) := by
  have hpb : wh b = 1 ∧ pl b = nI s := by
    rcases (h.1 s hs).2 with q | ⟨c, c1, c2, c3, c4⟩
    · rw [hat] at q; exact absurd q (nI_m1 (by omega))
    · rw [hat] at c2
      obtain rfl : b = c := nI_inj (by omega) (by omega) c2
      exact ⟨c3, c4⟩
  refine ⟨fun z hz => ?_, fun c hc hc1 => ?_⟩
  · by_cases e : z = s
    · subst e; simp only [pk_us]; exact ⟨trivial, Or.inl trivial⟩
    · simp only [pk_un e]
      obtain ⟨q1, q2⟩ := h.1 z hz
      refine ⟨q1, q2.imp_right ?_⟩
      rintro ⟨c, c1, c2, c3, c4⟩
      have hcb : c ≠ b := by
        intro e9; subst e9
        exact e (nI_inj (by omega) (by omega) (c4.symm.trans hpb.2))
      exact ⟨c, c1, c2, by rw [pk_un hcb]; exact c3, by rw [pk_un hcb]; exact c4⟩
  · by_cases e : c = b
    · subst e; rw [pk_us] at hc1; exact absurd hc1 hx
    · rw [pk_un e] at hc1
      obtain ⟨z, z1, z2, z3⟩ := h.2 c hc hc1
      refine ⟨z, z1, by rw [pk_un e]; exact z2, ?_⟩
      rw [pk_un (fun e9 => by subst e9; exact e (nI_inj (by omega) (by omega) (z3.symm.trans hat)))]; exact z3
theorem sl_keep {N N' b : Nat} {x y : Int32} {wh pl sl sl' : Nat → Int32} (h : RSl N wh pl sl sl') (hN : ∀ x, x < N' → x ≠ b → x < N) (hNN : N ≤ N') (hw : b < N → wh b ≠ 1) (hx : x ≠ 1) : RSl N' (upd wh b x) (upd pl b y) sl sl' := by
  refine ⟨fun z hz => ?_, fun c hc hc1 => ?_⟩
  · obtain ⟨q1, q2⟩ := h.1 z hz
    refine ⟨q1, q2.imp_right ?_⟩
    rintro ⟨c, c1, c2, c3, c4⟩
    have hcb : c ≠ b := by
      intro e9; subst e9; exact hw c1 c3
    exact ⟨c, by omega, c2, by rw [pk_un hcb]; exact c3, by rw [pk_un hcb]; exact c4⟩
  · by_cases e : c = b
    · subst e; rw [pk_us] at hc1; exact absurd hc1 hx
    · rw [pk_un e] at hc1
      obtain ⟨z, z1, z2, z3⟩ := h.2 c (hN c hc e) hc1
      exact ⟨z, z1, by rw [pk_un e]; exact z2, z3⟩
theorem pl_upd {N N' b : Nat} {x y y' : Int32} {wh pl pl' : Nat → Int32} (h : RPl N wh pl pl') (hN : ∀ x, x < N' → x ≠ b → x < N) (hn : (x = 0 ∧ ∃ t, t < 10 ∧ y = nI t ∧ y' = nI t) ∨ (x = 1 ∧ ∃ s, s < 72 ∧ y = sN s ∧ y' = nI s) ∨ (x = 2 ∧ y = -1)) : RPl N' (upd wh b x) (upd pl b y) (upd pl' b y') := by
  intro c hc
  by_cases e : c = b
  · subst e; simp only [pk_us]; exact hn
  · simp only [pk_un e]; exact h c (hN c hc e)
theorem wt_m1 {tr : Nat → Int32} : wt tr (-1) = 0 := if_pos rfl
theorem wt_n {tr : Nat → Int32} {b : Nat} (hb : b < 2 ^ 31) : wt tr (nI b) = tr b := by
  unfold wt; rw [if_neg (nI_m1 hb), nI_clamp hb]
/-- coming to a stack -/
def PY (w : St) (b t k : Nat) : St := sA (sA (sA (sA w 8 (upd (w.1 8) (4 * t + k) (nI b))) 7 (upd (w.1 7) t (nI (k + 1)))) 5 (upd (w.1 5) b 0)) 6 (upd (w.1 6) b (nI t))
def MY (w : St) (b t k : Nat) : St := sA (sA (sA (sA w 10 (upd (w.1 10) b 0)) 11 (upd (w.1 11) b (nI t))) 13 (upd (w.1 13) (4 * t + k) (nI b))) 12 (upd (w.1 12) t (nI (k + 1)))
theorem c_putInYard {w : St} {b t k : Nat} (hb : b < 60) (ht : t < 10) (hk : k < 4) (e : w.1 7 t = nI k) : pX6_putInYard (nI b) (nI t) w = some (0, PY w b t k) := by
  have hix : 4 * t + k < 40 := by omega
  unfold pX6_putInYard pX5_put pX0_move
  rw [rg_n (show t < rl 7 from ht), e, st_ix, rs_n (show 4 * t + k < rl 8 from hix), bnd_some, ra_n (show t < rl 7 from ht)]
  rw [show (sA w 8 (upd (w.1 8) (4 * t + k) (nI b))).1 7 t = nI k from e, nI_1, rs_n (show b < rl 5 from hb), rs_n (show b < rl 6 from hb)]; rfl
theorem m_comesTo {w : St} {b t k : Nat} (hb : b < 60) (ht : t < 10) (hk : k < 4) (e : w.1 12 t = nI k) : pX7_comesTo (nI b) (nI t) w = some (0, MY w b t k) := by
  have hix : 4 * t + k < 40 := by omega
  unfold pX7_comesTo
  have cb : (nI b).toNatClampNeg = b := nI_clamp (by omega)
  have ct : (nI t).toNatClampNeg = t := nI_clamp (by omega)
  have ci : (nI (4 * t + k)).toNatClampNeg = 4 * t + k := nI_clamp (by omega)
  have e9 : ∀ f g, (sA (sA w 10 f) 11 g).1 12 t = nI k := fun _ _ => e
  have e8 : ∀ f g h, (sA (sA (sA w 10 f) 11 g) 13 h).1 12 t = nI k := fun _ _ _ => e
  simp only [ckS hb (show 60 < 2 ^ 31 by decide), ckS ht (show 10 < 2 ^ 31 by decide), ckS2 hb (show 60 < 2 ^ 31 by decide), ckS2 ht (show 10 < 2 ^ 31 by decide), if_false, cb, ct, e9, st_ix2, ckS hix (show 40 < 2 ^ 31 by decide), ckS2 hix (show 40 < 2 ^ 31 by decide), ci, e8, nI_1]; rfl
