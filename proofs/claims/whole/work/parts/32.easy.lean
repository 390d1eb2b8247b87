/-! THE EASY CALLS -/
theorem t0 {v : St} {α : Type} {a b : α} : (if ((sS v 0 0).2 0) ≤ 0 then a else b) = a := if_pos (show (0 : Int32) ≤ 0 by decide)
theorem t1 {v : St} {α : Type} {a b : α} : (if ((sS v 0 1).2 0) ≤ 0 then a else b) = b := if_neg (show ¬ (1 : Int32) ≤ 0 by decide)
theorem t2 {v : St} {α : Type} {a b : α} : (if ((sS v 0 2).2 0) ≤ 0 then a else b) = b := if_neg (show ¬ (2 : Int32) ≤ 0 by decide)
theorem t3 {v : St} {α : Type} {a b : α} : (if ((sS v 0 3).2 0) ≤ 0 then a else b) = b := if_neg (show ¬ (3 : Int32) ≤ 0 by decide)
theorem e0 {v : St} {α : Type} {a b : α} : (if ((sS v 0 0).2 0) = 0 then a else b) = a := if_pos rfl
theorem e1 {v : St} {α : Type} {a b : α} : (if ((sS v 0 1).2 0) = 0 then a else b) = b := if_neg (show ¬ (1 : Int32) = 0 by decide)
theorem e2 {v : St} {α : Type} {a b : α} : (if ((sS v 0 2).2 0) = 0 then a else b) = b := if_neg (show ¬ (2 : Int32) = 0 by decide)
theorem nI_m1 {b : Nat} (h : b < 2 ^ 31) : ¬ nI b = -1 := by
  intro e
  have := congrArg Int32.toInt e
  rw [nI_toInt h] at this
  have e1 : (-1 : Int32).toInt = -1 := rfl
  omega
theorem one0 : ¬ (1 : Int32) = 0 := by decide
theorem RFl.set {n s : Nat} {f f' : Nat → Int32} {x : Int32} (h : RFl n f f') (hx : x = 0 ∨ x = 1) : RFl n (upd f s x) (upd f' s x) := by
  intro i hi
  by_cases e : i = s
  · subst e; rw [pk_us, pk_us]; exact ⟨rfl, hx⟩
  · rw [pk_un e, pk_un e]; exact h i hi
theorem sx_at : Sx_at Rel := by
  rintro u v ⟨N, O, P, h⟩ a
  rcases slot_cases a with ⟨h6, h7⟩ | ⟨s, hs, rfl, h6, h7⟩
  · refine ⟨1, 0, u, 0, sS v 0 1, ?_, Or.inr rfl, ?_, rfl, fun h => absurd h (by decide), N, O, P, h⟩
    · unfold pX6_at; rw [if_pos h6]
    · unfold pX7_at pX7_at_b13; rw [if_pos h7, t1]
  · obtain ⟨h1, h2, h3, h4, h5, h9⟩ := id h
    refine ⟨0, u.1 13 s, u, v.1 0 s, sS v 0 0, ?_, Or.inl rfl, ?_, rfl, fun _ => (h5.1 s hs).1, N, O, P, h⟩
    · unfold pX6_at; rw [if_neg (by rw [h6]; decide), c_boxIn hs]; rfl
    · unfold pX7_at pX7_at_b13; rw [if_neg (by rw [h7]; decide), t0, (sN_facts s hs).2.1, ck hs (by decide), nI_clamp (by omega)]; rfl
theorem c_turnPlug {u : St} {s : Nat} (hs : s < 72) : pX4_turnPlug (sN s) u = some (0, sA u 14 (upd (u.1 14) s (if u.1 14 s = 1 then 0 else 1))) := by
  unfold pX4_turnPlug pX4_turnPlug_b21
  rw [c_hasPlug hs, bnd_some, (sN_facts s hs).1, rs_n (show s < rl 14 from hs), rs_n (show s < rl 14 from hs)]
  by_cases h : u.1 14 s = 1
  · rw [if_pos h, if_pos h, if_neg one0]
  · rw [if_neg h, if_neg h, if_pos rfl]
theorem sx_plug : Sx_plug Rel := by
  rintro u v ⟨N, O, P, h⟩ a
  rcases slot_cases a with ⟨h6, h7⟩ | ⟨s, hs, rfl, h6, h7⟩
  · refine ⟨1, 0, u, 0, sS v 0 1, ?_, Or.inr (Or.inl rfl), ?_, rfl, fun h => absurd h (by decide), N, O, P, h⟩
    · unfold pX6_plug; rw [if_pos h6]
    · unfold pX7_plug pX7_plug_b13; rw [if_pos h7, t1]
  · obtain ⟨h1, h2, h3, h4, h5, hg, h8⟩ := id h
    have hN := h1.1
    have i6 : ¬ pX6_isSlot (sN s) = 0 := by rw [h6]; decide
    have i7 : ¬ pX7_isSlot (sN s) = 0 := by rw [h7]; decide
    have ei : pX7_indexOf (sN s) = nI s := (sN_facts s hs).2.1
    have ec : (nI s).toNatClampNeg = s := nI_clamp (by omega)
    have hck : ¬ (nI s < 0 ∨ 72 ≤ (nI s).toNatClampNeg) := nI_in hs (by decide)
    have h31 : 72 < 2 ^ 31 := by decide
    obtain ⟨g1, g2⟩ := hg s hs
    -- where the plug turns
    have turn6 : ∃ x : Int32, (x = 0 ∨ x = 1) ∧ (x = if v.1 1 s = 0 then 1 else 0) ∧ pX6_plug_b56 (sN s) u = some (0, x, sA u 14 (upd (u.1 14) s x)) := by
      unfold pX6_plug_b56
      rw [c_turnPlug hs, bnd_some, c_hasPlug hs, bnd_some]
      have er : (sA u 14 (upd (u.1 14) s (if u.1 14 s = 1 then 0 else 1))).1 14 s = (if u.1 14 s = 1 then 0 else 1) := pk_us
      rw [er, g1]
      rcases g2 with g2 | g2
      · refine ⟨1, Or.inr rfl, by rw [g2]; rfl, ?_⟩
        rw [g2]; rfl
      · refine ⟨0, Or.inl rfl, by rw [g2]; rfl, ?_⟩
        rw [g2]; rfl
    have turn7 : ∀ x : Int32, (x = if v.1 1 s = 0 then 1 else 0) → pX7_plug_b61 (nI s) 0 (sS v 0 0) = some (x, sA (sS (sS v 0 0) 0 0) 1 (upd (v.1 1) s x)) := by
      intro x hx
      unfold pX7_plug_b61
      rw [t0, if_neg hck, ec]
      unfold pX7_plug_b92
      simp only [ckS hs h31, ckS2 hs h31, ec, if_false]
      rcases g2 with g2 | g2
      · rw [g2, if_pos rfl] at hx; subst hx
        rw [if_pos (show (sS (sS v 0 0) 0 0).1 1 s = 0 from g2)]
        have er : (sA (sS (sS v 0 0) 0 0) 1 (upd ((sS (sS v 0 0) 0 0).1 1) s (vp_nar .boolean 1))).1 1 s = 1 := pk_us
        rw [er]; rfl
      · rw [g2, if_neg (by decide)] at hx; subst hx
        rw [if_neg (show ¬ (sS (sS v 0 0) 0 0).1 1 s = 0 by rw [show (sS (sS v 0 0) 0 0).1 1 s = 1 from g2]; decide)]
        have er : (sA (sS (sS v 0 0) 0 0) 1 (upd ((sS (sS v 0 0) 0 0).1 1) s (vp_nar .boolean 0))).1 1 s = 0 := pk_us
        rw [er]; rfl
    have fin : ∀ x : Int32, (x = 0 ∨ x = 1) → Rel (sA u 14 (upd (u.1 14) s x)) (sA (sS (sS v 0 0) 0 0) 1 (upd (v.1 1) s x)) := fun x hx => ⟨N, O, P, h1, h2, h3, h4, h5, hg.set hx, h8⟩
    have e13 := (h5.1 s hs).1
    have b7 : pX7_plug (sN s) v = pX7_plug_b13 (sN s) 0 v := if_neg i7
    have b6 : pX6_plug (sN s) u = (if u.1 13 s = ((-1)) then (pX6_plug_b56 (sN s) u) else (if (rg u 3 (u.1 13 s)) = 1 then (some (3, 0, u)) else (pX6_plug_b56 (sN s) u))) := by
      unfold pX6_plug; rw [if_neg i6, c_boxIn hs]; rfl
    obtain ⟨x, hx1, hx2, hx3⟩ := turn6
    rcases (h5.1 s hs).2 with hm | ⟨b, hb, hm, -, -⟩
    · refine ⟨0, x, sA u 14 (upd (u.1 14) s x), x, _, ?_, Or.inl rfl, ?_, rfl, fun _ => rfl, fin x hx1⟩
      · rw [b6, e13, hm, if_pos rfl, hx3]
      · rw [b7]; unfold pX7_plug_b13
        rw [t0, ei, if_neg hck, ec, show (sS v 0 0).1 0 s = -1 from hm, if_pos rfl]
        exact turn7 x hx2
    · have hb6 : b < 60 := by omega
      have e3 := (h2 b hb).2.2.2.1
      have b7' : pX7_plug_b13 (sN s) 0 v = (if v.1 8 b = 1 then pX7_plug_b61 (nI s) 2 (sS v 0 0) else pX7_plug_b60 (nI s) (sS v 0 0)) := by
        unfold pX7_plug_b13
        simp only [t0, ei, ckS hs h31, ckS2 hs h31, ec, show (sS v 0 0).1 0 s = nI b from hm, if_neg (nI_m1 (show b < 2 ^ 31 by omega)), ckS hb6 (show 60 < 2 ^ 31 by decide), ckS2 hb6 (show 60 < 2 ^ 31 by decide), if_false, nI_clamp (show b < 2 ^ 31 by omega)]; rfl
      by_cases hk : v.1 8 b = 1
      · refine ⟨3, 0, u, 0, sS (sS v 0 0) 0 2, ?_, Or.inr (Or.inr rfl), ?_, rfl, fun h => absurd h (by decide), N, O, P, h⟩
        · rw [b6, e13, hm, if_neg (nI_m1 (by omega)), rg_n (show b < rl 3 from hb6), e3, if_pos hk]
        · rw [b7, b7', if_pos hk]; unfold pX7_plug_b61; rw [t2]
      · refine ⟨0, x, sA u 14 (upd (u.1 14) s x), x, _, ?_, Or.inl rfl, ?_, rfl, fun _ => rfl, fin x hx1⟩
        · rw [b6, e13, hm, if_neg (nI_m1 (by omega)), rg_n (show b < rl 3 from hb6), e3, if_neg hk, hx3]
        · rw [b7, b7', if_neg hk]; exact turn7 x hx2
theorem sx_bounds : Sx_bounds Rel := by
  rintro u v ⟨N, O, P, h⟩ a1 a2 a3
  have bad : ∀ x : Int32, Rel u (sS v 0 x) := fun x => ⟨N, O, P, h⟩
  have out : (pX6_bounds a1 a2 a3 u = some (2, 0, u)) → (pX7_bounds a1 a2 a3 v = some (0, sS v 0 1)) → ∃ k r u1 b v1, pX6_bounds a1 a2 a3 u = some (k, r, u1) ∧ (k = 0 ∨ k = 2) ∧ pX7_bounds a1 a2 a3 v = some (b, v1) ∧ v1.2 0 = (if k = 0 then 0 else if k = 2 then 1 else 0) ∧ Rel u1 v1 := fun q1 q2 => ⟨2, 0, u, 0, sS v 0 1, q1, Or.inr rfl, q2, rfl, bad 1⟩
  rcases inL a1 0 2000 0 2000 rfl rfl (by decide) (by decide) with z1 | ⟨n1, -, l1, rfl, z1⟩
  · refine out ?_ ?_
    · simp [pX6_bounds, pX6_bounds_b33, isWithin_eq, z1]
    · simp [pX7_bounds, pX7_bounds_b38, pX7_bounds_b39, z1, e1]
  rcases inL a2 0 2000 0 2000 rfl rfl (by decide) (by decide) with z2 | ⟨n2, -, l2, rfl, z2⟩
  · refine out ?_ ?_
    · simp [pX6_bounds, pX6_bounds_b33, isWithin_eq, z1, z2]
    · simp [pX7_bounds, pX7_bounds_b38, pX7_bounds_b39, z1, z2, e1]
  rcases inL a3 0 9999 0 9999 rfl rfl (by decide) (by decide) with z3 | ⟨n3, -, l3, rfl, z3⟩
  · refine out ?_ ?_
    · simp [pX6_bounds, pX6_bounds_b33, isWithin_eq, z1, z2, z3]
    · simp [pX7_bounds, pX7_bounds_b38, pX7_bounds_b39, z1, z2, z3, e1]
  refine ⟨0, 0, sS (sS (sS u 3 (nI n1)) 4 (nI n2)) 5 (nI n3), 0, sS (sS (sS (sS v 0 0) 1 (nI n1)) 2 (nI n2)) 3 (nI n3), ?_, Or.inl rfl, ?_, rfl, N, O, P, ?_, h.2⟩
  · simp [pX6_bounds, isWithin_eq, z1, z2, z3]
  · simp [pX7_bounds, pX7_bounds_b39, z1, z2, z3, e0]
  · obtain ⟨s1, s2, s3, s4, s5, s6, s7, s8, s9, s10, s11, s12, s13, s14, s15, s16, s17, s18⟩ := h.1
    exact ⟨s1, s2, s3, s4, s5, s6, s7, s8, s9, s10, s11, rfl, rfl, rfl, show (0 : Int32) ≤ nI n1 from nI_pos' (by omega), show (0 : Int32) ≤ nI n2 from nI_pos' (by omega), show (0 : Int32) ≤ nI n3 from nI_pos' (by omega), s18⟩
theorem sx_jam : Sx_jam Rel := by
  rintro u v ⟨N, O, P, h⟩ a1 a2
  have w : ∀ a b c, pX6_isWithin a b c = pX7_in a b c := fun _ _ _ => rfl
  rcases bay_cases a1 with ⟨h6, h7⟩ | ⟨i, hi, rfl, h6, h7⟩
  · refine ⟨1, 0, u, 0, sS v 0 1, ?_, Or.inr (Or.inl rfl), ?_, rfl, fun h => absurd h (by decide), N, O, P, h⟩
    · unfold pX6_jam; rw [if_pos h6]
    · unfold pX7_jam pX7_jam_b27; rw [if_pos h7, t1]
  have i6 : ¬ pX6_isBay (nI i) = 0 := by rw [h6]; decide
  have i7 : ¬ pX7_isBay (nI i) = 0 := by rw [h7]; decide
  rcases inL a2 1 50 1 50 rfl rfl (by decide) (by decide) with z | ⟨n, hn1, hn2, rfl, z⟩
  · refine ⟨2, 0, u, 0, sS v 0 2, ?_, Or.inr (Or.inr rfl), ?_, rfl, fun h => absurd h (by decide), N, O, P, h⟩
    · unfold pX6_jam; rw [if_neg i6, w, if_pos z]
    · unfold pX7_jam pX7_jam_b27; rw [if_neg i7, if_pos z, t2]
  · obtain ⟨h1, h2, h3, h4, h5, hg, ho, hj, h9⟩ := id h
    have eh : u.2 0 = v.2 7 := h1.2.2.2.2.2.2.2.2.2.1
    have hck : ¬ (nI i < 0 ∨ 6 ≤ (nI i).toNatClampNeg) := nI_in hi (by decide)
    have h31 : 6 < 2 ^ 31 := by decide
    have ec : (nI i).toNatClampNeg = i := nI_clamp (by omega)
    have ej := hj i hi
    have set : ∀ x : Int32, REq 6 (upd (u.1 10) i x) (upd (v.1 3) i x) := by
      intro x k hk
      by_cases e : k = i
      · subst e; rw [pk_us, pk_us]
      · rw [pk_un e, pk_un e]; exact hj k hk
    have b7 : pX7_jam (nI i) (nI n) v = pX7_jam_b27 (nI i) (nI n) 0 v := by
      unfold pX7_jam; rw [if_neg i7, if_neg (by rw [z]; decide)]
    have b6 : pX6_jam (nI i) (nI n) u = some (0, if u.1 10 i < u.2 0 + nI n then u.2 0 + nI n else u.1 10 i, sA u 10 (upd (u.1 10) i (if u.1 10 i < u.2 0 + nI n then u.2 0 + nI n else u.1 10 i))) := by
      unfold pX6_jam; rw [if_neg i6, w, if_neg (by rw [z]; decide), rg_n (show i < rl 10 from hi), rs_n (show i < rl 10 from hi)]
    by_cases hc : u.1 10 i < u.2 0 + nI n
    · refine ⟨0, u.2 0 + nI n, sA u 10 (upd (u.1 10) i (u.2 0 + nI n)), u.2 0 + nI n, sA (sS v 0 0) 3 (upd (v.1 3) i (u.2 0 + nI n)), ?_, Or.inl rfl, ?_, rfl, fun _ => rfl, N, O, P, h1, h2, h3, h4, h5, hg, ho, set _, h9⟩
      · rw [b6, if_pos hc]
      · rw [b7]; unfold pX7_jam_b27 pX7_jam_b74
        rw [t0, if_neg hck, ec, if_neg (show ¬ (sS v 0 0).2 7 + nI n ≤ (sS v 0 0).1 3 i from Int32.not_le.mpr (by show v.1 3 i < v.2 7 + nI n; rw [← ej, ← eh]; exact hc))]
        simp only [ckS hi h31, ckS2 hi h31, if_false, ec]
        rw [show (sA (sS v 0 0) 3 (upd ((sS v 0 0).1 3) i ((sS v 0 0).2 7 + nI n))).1 3 i = v.2 7 + nI n from pk_us, eh]; rfl
    · refine ⟨0, u.1 10 i, sA u 10 (upd (u.1 10) i (u.1 10 i)), u.1 10 i, sA (sS v 0 0) 3 (upd (v.1 3) i (u.1 10 i)), ?_, Or.inl rfl, ?_, rfl, fun _ => rfl, N, O, P, h1, h2, h3, h4, h5, hg, ho, set _, h9⟩
      · rw [b6, if_neg hc]
      · rw [b7]; unfold pX7_jam_b27 pX7_jam_b74
        rw [t0, if_neg hck, ec, if_pos (show (sS v 0 0).2 7 + nI n ≤ (sS v 0 0).1 3 i from Int32.not_lt.mp (by show ¬ v.1 3 i < v.2 7 + nI n; rw [← ej, ← eh]; exact hc))]
        simp only [ckS hi h31, ckS2 hi h31, if_false, ec]
        rw [show (sA (sS v 0 0) 3 (upd ((sS v 0 0).1 3) i ((sS v 0 0).1 3 i))).1 3 i = v.1 3 i from pk_us, ej]; rfl
theorem sx_crane : Sx_crane Rel := by
  rintro u v ⟨N, O, P, h⟩ a1 a2 a3 a4
  have bad : ∀ x : Int32, Rel u (sS v 0 x) := fun x => ⟨N, O, P, h⟩
  rcases crane_cases a1 with ⟨h6, h7⟩ | ⟨i, hi, rfl, h6, h7⟩
  · refine ⟨1, 0, u, 0, sS v 0 1, ?_, Or.inr (Or.inl rfl), ?_, rfl, bad 1⟩
    · simp [pX6_crane, h6]
    · simp [pX7_crane, pX7_crane_b43, h7, e1]
  have out : (pX6_crane (nI i) a2 a3 a4 u = some (2, 0, u)) → (pX7_crane (nI i) a2 a3 a4 v = some (0, sS v 0 2)) → ∃ k r u1 b v1, pX6_crane (nI i) a2 a3 a4 u = some (k, r, u1) ∧ (k = 0 ∨ k = 1 ∨ k = 2) ∧ pX7_crane (nI i) a2 a3 a4 v = some (b, v1) ∧ v1.2 0 = (if k = 0 then 0 else if k = 1 then 1 else if k = 2 then 2 else 0) ∧ Rel u1 v1 := fun q1 q2 => ⟨2, 0, u, 0, sS v 0 2, q1, Or.inr (Or.inr rfl), q2, rfl, bad 2⟩
  have b42 : ∀ x y z w, pX7_crane_b42 x y z w v = some (0, sS v 0 2) := by
    intro x y z w; simp [pX7_crane_b42, pX7_crane_b43, e2]
  rcases bay_cases a2 with ⟨h62, h72⟩ | ⟨f, hf, rfl, h62, h72⟩
  · refine out ?_ ?_
    · simp [pX6_crane, pX6_crane_b36, h6, h62]
    · simp [pX7_crane, b42, h7, h72]
  rcases bay_cases a3 with ⟨h63, h73⟩ | ⟨t, ht, rfl, h63, h73⟩
  · have h75 : pX7_in a3 (nI f) 5 = 0 := by
      rcases inL a3 (nI f) 5 f 5 rfl rfl (by decide) (by omega) with z | ⟨n, g1, g2, rfl, -⟩
      · exact z
      · rcases inL (nI n) 0 5 0 5 rfl rfl (by decide) (by decide) with z | ⟨n', g1', g2', q, z⟩
        · exfalso
          have h9 : ∀ i, i < 6 → ¬ pX7_isBay (nI i) = 0 := by decide +kernel
          exact h9 n (by omega) h73
        · exfalso
          have h9 : ∀ i, i < 6 → ¬ pX7_isBay (nI i) = 0 := by decide +kernel
          exact h9 n (by omega) h73
    refine out ?_ ?_
    · simp [pX6_crane, pX6_crane_b36, h6, h62, h63]
    · simp [pX7_crane, b42, h7, h72, h75]
  by_cases hft : f ≤ t
  · have h75 : pX7_in (nI t) (nI f) 5 = 1 := by
      have h9 : ∀ t, t < 6 → ∀ f, f ≤ t → pX7_in (nI t) (nI f) 5 = 1 := by decide +kernel
      exact h9 t ht f hft
    have hle : nI f ≤ nI t := nI_le hft (by omega)
    rcases inL a4 1 4 1 4 rfl rfl (by decide) (by decide) with z | ⟨n, g1, g2, rfl, z⟩
    · refine out ?_ ?_
      · simp [pX6_crane, isWithin_eq, h6, h62, h63, hle, z]
      · simp [pX7_crane, b42, h7, h72, h75, z]
    · obtain ⟨h1, h2, h3, h4, h5, hg, ho, hj, hw, hl, ht', hc, hq⟩ := id h
      refine ⟨0, 0, rs (rs (rs u 18 (nI i) (nI f)) 19 (nI i) (nI t)) 20 (nI i) (nI n), 0, sA (sA (sA (sS v 0 0) 15 (upd (v.1 15) i (nI f))) 16 (upd (v.1 16) i (nI t))) 17 (upd (v.1 17) i (nI n)), ?_, Or.inl rfl, ?_, rfl, N, O, P, ?_⟩
      · simp [pX6_crane, isWithin_eq, h6, h62, h63, hle, z]
      · simp only [pX7_crane, pX7_crane_b43, h7, h72, h75, z, e0, ckS hi (show 2 < 2 ^ 31 by decide), ckS2 hi (show 2 < 2 ^ 31 by decide), if_false, one0, nI_clamp (show i < 2 ^ 31 by omega)]; rfl
      · rw [rs_n (show i < rl 18 from hi), rs_n (show i < rl 19 from hi), rs_n (show i < rl 20 from hi)]
        refine ⟨h1, h2, h3, h4, h5, hg, ho, hj, hw, hl, ht', ?_, hq⟩
        intro c hc2
        obtain ⟨q1, q2, q3, q4⟩ := hc c hc2
        show upd (u.1 18) i (nI f) c = upd (v.1 15) i (nI f) c ∧ upd (u.1 19) i (nI t) c = upd (v.1 16) i (nI t) c ∧ upd (u.1 20) i (nI n) c = upd (v.1 17) i (nI n) c ∧ ∃ m, m ≤ 4 ∧ upd (v.1 17) i (nI n) c = nI m
        by_cases e : c = i
        · subst e; simp only [pk_us]; exact ⟨trivial, trivial, trivial, n, g2, rfl⟩
        · simp only [pk_un e]; exact ⟨q1, q2, q3, q4⟩
  · have h75 : pX7_in (nI t) (nI f) 5 = 0 := by
      have h9 : ∀ t, t < 6 → ∀ f, f < 6 → ¬ f ≤ t → pX7_in (nI t) (nI f) 5 = 0 := by decide +kernel
      exact h9 t ht f hf hft
    have hle : ¬ nI f ≤ nI t := nI_ge (by omega) (by omega)
    refine out ?_ ?_
    · simp [pX6_crane, pX6_crane_b36, h6, h62, h63, hle]
    · simp [pX7_crane, b42, h7, h72, h75]
theorem sx_hatch : Sx_hatch Rel := by
  rintro u v ⟨N, O, P, h⟩ a
  rcases bay_cases a with ⟨h6, h7⟩ | ⟨i, hi, rfl, h6, h7⟩
  · refine ⟨1, 0, u, 0, sS v 0 1, ?_, Or.inr rfl, ?_, rfl, fun h => absurd h (by decide), N, O, P, h⟩
    · simp [pX6_hatch, h6]
    · simp [pX7_hatch, pX7_hatch_b13, h7, t1]
  · obtain ⟨h1, h2, h3, h4, h5, hg, ho, hj, hw⟩ := id h
    obtain ⟨o1, o2⟩ := ho i hi
    have ej := hj i hi
    have eh : u.2 0 = v.2 7 := h1.2.2.2.2.2.2.2.2.2.1
    refine ⟨0, (if v.1 2 i = 0 then 0 else 1) + (if v.1 3 i ≤ v.2 7 then 0 else 2), u, (if v.1 2 i = 0 then 0 else 1) + (if v.1 3 i ≤ v.2 7 then 0 else 2), sS v 0 0, ?_, Or.inl rfl, ?_, rfl, fun _ => rfl, N, O, P, h⟩
    · simp only [pX6_hatch, pX6_hatch_b33, pX6_hatch_b46, h6, one0, if_false, c_isOpen hi, c_isJammed hi, bnd_some, o1, ej, eh]
      rcases o2 with o2 | o2 <;> rw [o2] <;> by_cases q : v.1 3 i ≤ v.2 7 <;> simp [q]
    · have q0 : (sS v 0 0).1 2 i = v.1 2 i := rfl
      have q1 : (sS v 0 0).1 3 i = v.1 3 i := rfl
      have q2 : (sS v 0 0).2 7 = v.2 7 := rfl
      simp only [pX7_hatch, pX7_hatch_b13, pX7_hatch_b41, pX7_hatch_b59, h7, one0, if_false, t0, ckS hi (show 6 < 2 ^ 31 by decide), ckS2 hi (show 6 < 2 ^ 31 by decide), nI_clamp (show i < 2 ^ 31 by omega), q0, q1, q2]
      rcases o2 with o2 | o2 <;> rw [o2] <;> by_cases q : v.1 3 i ≤ v.2 7 <;> simp [q]
theorem sx_paper : Sx_paper Rel := by
  rintro u v ⟨N, O, P, h⟩ a1 a2
  obtain ⟨h1, h2, h3, g4, g5, g6, g7, g8, g9, g10, g11, g12, g13, g14, g15⟩ := id h
  have hN := h1.1
  rcases box_cases h1.1 h1.2.2.2.1 h1.2.2.2.2.1 a1 with ⟨h6, h7⟩ | ⟨b, hb, rfl, h6, h7⟩
  · refine ⟨1, 0, u, 0, sS v 0 1, ?_, Or.inr rfl, ?_, rfl, fun h => absurd h (by decide), N, O, P, h⟩
    · simp [pX6_paper, h6, bnd_some]
    · simp [pX7_paper, pX7_paper_b22, pX7_paper_b23, h7, bnd_some, t1]
  rcases inL a2 0 2 0 2 rfl rfl (by decide) (by decide) with z | ⟨n, -, hn, rfl, z⟩
  · refine ⟨1, 0, u, 0, sS v 0 1, ?_, Or.inr rfl, ?_, rfl, fun h => absurd h (by decide), N, O, P, h⟩
    · simp [pX6_paper, h6, bnd_some, isWithin_eq, z]
    · simp [pX7_paper, pX7_paper_b22, pX7_paper_b23, h7, bnd_some, t1, z]
  · have hb6 : b < 60 := by omega
    have ep := (h2 b hb).2.2.2.2.1
    have eu : ∀ x : Int32, (sA u 4 (upd (u.1 4) b x)).1 4 b = x := fun x => pk_us
    have ev : ∀ x : Int32, (sA (sS v 0 0) 9 (upd (v.1 9) b x)).1 9 b = x := fun x => pk_us
    refine ⟨0, if v.1 9 b ^^^ (1 <<< (nI n &&& 31)) = 7 then 0 else 1, sA u 4 (upd (u.1 4) b (v.1 9 b ^^^ (1 <<< (nI n &&& 31)))), if v.1 9 b ^^^ (1 <<< (nI n &&& 31)) = 7 then 0 else 1, sA (sS v 0 0) 9 (upd (v.1 9) b (v.1 9 b ^^^ (1 <<< (nI n &&& 31)))), ?_, Or.inl rfl, ?_, rfl, fun _ => rfl, N, O, P, h1, ?_, h3, g4, g5, g6, g7, g8, g9, g10, g11, g12, g13, fun c c1 c2 => (pk_un (show c ≠ b by omega)).trans (g14 c c1 c2), g15⟩
    · simp only [pX6_paper, h6, bnd_some, one0, if_false, isWithin_eq, z, rg_n (show b < rl 4 from hb6), rs_n (show b < rl 4 from hb6), ep, c_isHeld hb6, eu]
      by_cases q : v.1 9 b ^^^ (1 <<< (nI n &&& 31)) = 7 <;> simp [q]
    · have q9 : (sS v 0 0).1 9 = v.1 9 := rfl
      simp only [pX7_paper, pX7_paper_b23, h7, bnd_some, one0, if_false, z, t0, ckS hb6 (show 60 < 2 ^ 31 by decide), ckS2 hb6 (show 60 < 2 ^ 31 by decide), nI_clamp (show b < 2 ^ 31 by omega), q9, m_isHeld hb6, ev]
      by_cases q : v.1 9 b ^^^ (1 <<< (nI n &&& 31)) = 7 <;> simp [q]
    · intro c hc
      obtain ⟨q1, q2, q3, q4, q5, q6⟩ := h2 c hc
      refine ⟨q1, q2, q3, q4, ?_, q6⟩
      show upd (u.1 4) b _ c = upd (v.1 9) b _ c
      by_cases e : c = b
      · subst e; rw [pk_us, pk_us]
      · rw [pk_un e, pk_un e]; exact q5
