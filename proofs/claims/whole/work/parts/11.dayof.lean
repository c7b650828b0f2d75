/-! dayOf: X reckons the day, Y looks through all of them -/
def cr_hit (x1 x2 x3 : Int32) (d : Nat) : Prop := nI (cr_mo d / 12 + 2000) = x1 ∧ nI (cr_mo d % 12 + 1) = x2 ∧ nI (cr_dt d) = x3
section
variable {n s f t c e : Nat} {ms ds ls ws o p kn x1 x2 x3 : Int32} {ya mb dta ex inc ca da : Nat → Int32}
theorem cr_ydo {post : Int32 → Prop} {r : Int32} (hD : cr_CY ya mb dta) (hp : post r) : ∀ (k j : Nat), j + k = 7305 → ((r = -2 ∧ ∀ d, j ≤ d → d < 7305 → ¬ cr_hit x1 x2 x3 d) ∨ (∃ D, j ≤ D ∧ D < 7305 ∧ cr_hit x1 x2 x3 D ∧ (∀ d, j ≤ d → d < D → ¬ cr_hit x1 x2 x3 d) ∧ r = nI D)) → wY_dayOf_3 post x1 x2 x3 (nI s) (nI f) (nI t) ms ds ls ws o p (nI c) (nI e) (nI n) kn ya mb dta ex inc ca da (k + 1) (nI j) := by
  intro k
  induction k with
  | zero =>
    intro j hj h
    rw [wY_dayOf_3]
    refine br_t (nI_le (a := 7305) (by omega) (by omega)) ?_
    rcases h with h | ⟨D, h1, h2, h3⟩
    · rw [← h.1]
      exact hp
    · omega
  | succ k ih =>
    intro j hj h
    have hj' : j < 7305 := by omega
    have h75 : ¬ (7305 : Int32) ≤ nI j := nI_ge (b := 7305) hj' (by decide)
    obtain ⟨a1, a2, a3⟩ := hD j hj'
    have hi := cr_in hj'
    have e0 : nI (cr_mo j / 12) + 2000 = nI (cr_mo j / 12 + 2000) := nI_add _ 2000
    have go : ¬ cr_hit x1 x2 x3 j → wY_dayOf_3 post x1 x2 x3 (nI s) (nI f) (nI t) ms ds ls ws o p (nI c) (nI e) (nI n) kn ya mb dta ex inc ca da (k + 1) (nI (j + 1)) := by
      intro hn
      refine ih (j + 1) (by omega) ?_
      rcases h with h | ⟨D, h1, h2, h3, h4, h5⟩
      · exact Or.inl ⟨h.1, fun d hd => h.2 d (by omega)⟩
      · have hDj : D ≠ j := fun z => hn (z ▸ h3)
        exact Or.inr ⟨D, by omega, h2, h3, fun d hd => h4 d (by omega), h5⟩
    rw [wY_dayOf_3]
    dsimp only
    rw [cr_cl hj', a1, a2, a3, e0]
    refine br_f h75 ⟨hi, br_c (fun z1 => ⟨hi, br_c (fun z2 => ⟨hi, br_c (fun z3 => ?_) (fun z3 => nm_r (nI_1 j) (go (fun w => z3 w.2.2)))⟩) (fun z2 => nm_r (nI_1 j) (go (fun w => z2 w.2.1)))⟩) (fun z1 => nm_r (nI_1 j) (go (fun w => z1 w.1)))⟩
    have hh : cr_hit x1 x2 x3 j := ⟨z1, z2, z3⟩
    rcases h with h | ⟨D, h1, h2, h3, h4, h5⟩
    · exact absurd hh (h.2 j (Nat.le_refl _) hj')
    · have hDj : D = j := by
        by_cases w : D = j
        · exact w
        · exact absurd hh (h4 j (Nat.le_refl _) (by omega))
      rw [h5, hDj] at hp
      exact hp
end
theorem cr_hit_iff {y mm q d : Nat} (hd : d < 7305) (hy : y ≤ 19) (hm : mm ≤ 11) (hq : q < 2 ^ 31) : cr_hit (nI (2000 + y)) (nI (mm + 1)) (nI q) d ↔ cr_mo d = y * 12 + mm ∧ cr_dt d = q := by
  have h1 := cr_mo_lt hd
  have h2 := cr_dt_r d
  unfold cr_hit
  rw [nI_eq (by omega) (by omega), nI_eq (by omega) (by omega), nI_eq (by omega) hq]
  omega
theorem i_vc_dayOf {k : Nat} {u : SX} {v : SY} (I : i_Rel k u v) (hk : k + 4 ≤ 2048) (v1 : Int32) (v2 : Int32) (v3 : Int32) : wpX_dayOf (fun r => wpY_dayOf (fun r' => r' = r ∧ i_Rel (k + 4) u v) v v1 v2 v3) u v1 v2 v3 := by
  have I' := I
  obtain ⟨n, s, f, t, c, e, ms, ds, ls, ws, o, p, kn, mfA, moA, ser, sd, ya, mb, dta, ex, inc, ca, da, g, ib, rfl, rfl, hC, hD, hO, hE, hS, hK⟩ := I
  unfold wpX_dayOf wpY_dayOf
  dsimp only
  have none : (∀ d, d < 7305 → ¬ cr_hit v1 v2 v3 d) → ∃ n3, wY_dayOf_3 (fun r' => r' = -2 ∧ i_Rel (k + 4) (nI n, nI s, nI f, nI t, ms, ds, ls, ws, o, p, nI c, nI e, mfA, moA, ser, sd) (nI s, nI f, nI t, ms, ds, ls, ws, o, p, nI c, nI e, nI n, kn, ya, mb, dta, ex, inc, ca, da)) v1 v2 v3 (nI s) (nI f) (nI t) ms ds ls ws o p (nI c) (nI e) (nI n) kn ya mb dta ex inc ca da n3 0 := fun h => ⟨7305 + 1, cr_ydo (r := -2) hD ⟨rfl, I'⟩ 7305 0 rfl (Or.inl ⟨rfl, fun d _ hd => h d hd⟩)⟩
  by_cases z1 : v1 < 2000
  · refine br_t z1 (none (fun d hd w => ?_))
    rw [← w.1] at z1
    exact nI_nlt (b := 2000) (by omega) (by have := cr_mo_lt hd; omega) z1
  refine br_f z1 ?_
  by_cases z2 : 2019 < v1
  · refine br_t z2 (none (fun d hd w => ?_))
    rw [← w.1] at z2
    exact nI_nlt (a := 2019) (by have := cr_mo_lt hd; omega) (by decide) z2
  refine br_f z2 ?_
  by_cases z3 : v2 < 1
  · refine br_t z3 (none (fun d hd w => ?_))
    rw [← w.2.1] at z3
    exact nI_nlt (b := 1) (by omega) (by omega) z3
  refine br_f z3 ?_
  by_cases z4 : v2 ≤ 12
  · refine br_t z4 ?_
    have z1' : ¬ v1 < 0 := fun z => z1 (Int32.lt_trans z (by decide))
    obtain ⟨y0, hy0, rfl⟩ := nI_of2 (x := v1) (M := 2019) (n := 2019) (by decide) z1' (Int32.not_lt.mp z2)
    have hy1 : 2000 ≤ y0 := by
      by_cases w : 2000 ≤ y0
      · exact w
      · exact absurd (nI_lt (b := 2000) (by omega) (by decide)) z1
    obtain ⟨y, rfl⟩ : ∃ y, y0 = 2000 + y := ⟨y0 - 2000, by omega⟩
    have z3' : ¬ v2 < 0 := fun z => z3 (Int32.lt_trans z (by decide))
    obtain ⟨m0, hm0, rfl⟩ := nI_of2 (x := v2) (M := 12) (n := 12) (by decide) z3' z4
    have hm1 : 1 ≤ m0 := by
      by_cases w : 1 ≤ m0
      · exact w
      · exact absurd (nI_lt (b := 1) (by omega) (by decide)) z3
    obtain ⟨mm, rfl⟩ : ∃ mm, m0 = mm + 1 := ⟨m0 - 1, by omega⟩
    have ei : ((nI (2000 + y) - 2000) * 12 + nI (mm + 1)) - 1 = nI (y * 12 + mm) := by
      have e1 : nI (2000 + y) - 2000 = nI (2000 + y - 2000) := pk_sub (b := 2000) (by omega)
      have e2 : nI (2000 + y - 2000) * 12 = nI ((2000 + y - 2000) * 12) := pk_mul _ 12
      have e3 : nI ((2000 + y - 2000) * 12 + (mm + 1)) - 1 = nI ((2000 + y - 2000) * 12 + (mm + 1) - 1) := pk_sub (b := 1) (by omega)
      rw [e1, e2, nI_add, e3]
      exact congrArg nI (by omega)
    refine nm_r ei ?_
    by_cases z5 : v3 < 1
    · refine br_t z5 (none (fun d hd w => ?_))
      rw [← w.2.2] at z5
      have := cr_dt_r d
      exact nI_nlt (b := 1) (by omega) (by omega) z5
    refine br_f z5 ?_
    have z5' : ¬ v3 < 0 := fun z => z5 (Int32.lt_trans z (by decide))
    obtain ⟨q, hq, rfl⟩ := nI_of z5'
    have hq1 : 1 ≤ q := by
      by_cases w : 1 ≤ q
      · exact w
      · exact absurd (nI_lt (b := 1) (by omega) (by decide)) z5
    have hr := cr_ml_r (y * 12 + mm)
    have hs := cr_mf_s (y * 12 + mm)
    have hl := cr_mf_le (show y * 12 + mm + 1 ≤ 240 by omega)
    refine cr_xml (by omega) (pk_le q (cr_ml (y * 12 + mm)) (fun w => ⟨vp_in_nI (by omega) (by decide), ?_⟩) (fun w => none (fun d hd h => ?_)))
    · rw [nI_clamp (n := y * 12 + mm) (by omega), hC.1 _ (by omega), nI_add]
      have e5 : nI (cr_mf (y * 12 + mm) + q) - 1 = nI (cr_mf (y * 12 + mm) + q - 1) := pk_sub (b := 1) (by omega)
      rw [e5]
      have hu : cr_mo (cr_mf (y * 12 + mm) + q - 1) = y * 12 + mm := cr_uniq (by omega) (by omega)
      refine ⟨7305 + 1, cr_ydo (r := nI (cr_mf (y * 12 + mm) + q - 1)) hD ⟨rfl, I'⟩ 7305 0 rfl (Or.inr ⟨cr_mf (y * 12 + mm) + q - 1, by omega, by omega, ?_, fun d _ hd h => ?_, rfl⟩)⟩
      · rw [cr_hit_iff (by omega) (by omega) (by omega) hq]
        refine ⟨hu, ?_⟩
        unfold cr_dt
        rw [hu]
        omega
      · rw [cr_hit_iff (by omega) (by omega) (by omega) hq] at h
        have h1 := h.2
        have h2 := (cr_mo_in d).1
        unfold cr_dt at h1
        rw [h.1] at h1 h2
        omega
    · rw [cr_hit_iff hd (by omega) (by omega) hq] at h
      have h1 := (cr_dt_r d).2.1
      rw [h.1, h.2] at h1
      omega
  · refine br_f z4 (none (fun d hd w => ?_))
    rw [← w.2.1] at z4
    exact z4 (nI_le (b := 12) (by omega) (by decide))
