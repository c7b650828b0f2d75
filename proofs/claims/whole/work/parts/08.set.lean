/-! the calls that set -/
section
variable {post : Int32 → Prop} {d : Nat}
theorem cr_xid (hd : d < 7305) (h : post 1) : wpX_isDay post (nI d) := by
  unfold wpX_isDay
  exact br_f (nI_pos (by omega)) (br_f (nI_nlt (a := 7304) (b := d) (by omega) (by decide)) h)
theorem cr_xis {x : Int32} (hx : x < 0 ∨ nI 7305 ≤ x) (h : post 0) : wpX_isDay post x := by
  unfold wpX_isDay
  by_cases z : x < 0
  · exact br_t z h
  · obtain ⟨j, hj, rfl⟩ := nI_of z
    rcases hx with hx | hx
    · exact absurd hx z
    · rw [nI_leI (by decide) hj] at hx
      exact br_f z (br_t (nI_lt (a := 7304) (by omega) hj) h)
end
theorem cr_cb (x : Int32) : ∀ (k j : Nat) (acc : Int32), j + k = 32 → ∃ r : Int32, (∀ post : Int32 → Prop, post r → wX_countBits_4 post x (k + 1) acc (nI j)) ∧ (∀ (post : Int32 → Prop) (y1 y2 y3 y4 y5 y6 y7 y8 y9 y10 y11 y12 y13 : Int32) (y14 y15 y16 y17 y18 y19 y20 : Nat → Int32), post r → wY_ones_4 post x y1 y2 y3 y4 y5 y6 y7 y8 y9 y10 y11 y12 y13 y14 y15 y16 y17 y18 y19 y20 (k + 1) acc (nI j)) := by
  intro k
  induction k with
  | zero =>
    intro j acc hj
    have h : (32 : Int32) ≤ nI j := nI_le (a := 32) (by omega) (by omega)
    refine ⟨acc, fun post hp => ?_, fun post y1 y2 y3 y4 y5 y6 y7 y8 y9 y10 y11 y12 y13 y14 y15 y16 y17 y18 y19 y20 hp => ?_⟩
    · rw [wX_countBits_4]
      exact br_t h hp
    · rw [wY_ones_4]
      exact br_t h hp
  | succ k ih =>
    intro j acc hj
    have h : ¬ (32 : Int32) ≤ nI j := nI_ge (b := 32) (by omega) (by decide)
    obtain ⟨r, hX, hY⟩ := ih (j + 1) (acc + cr_b (bt x j)) (by omega)
    refine ⟨r, fun post hp => ?_, fun post y1 y2 y3 y4 y5 y6 y7 y8 y9 y10 y11 y12 y13 y14 y15 y16 y17 y18 y19 y20 hp => ?_⟩
    · rw [wX_countBits_4]
      have h1 := hX post hp
      refine br_f h (cr_hb x (by omega) (cr_sel (fun z => ?_) (fun z => ?_)))
      · rw [z] at h1
        refine nm_r (nI_1 j) ?_
        have e : acc + cr_b false = acc := Int32.add_zero acc
        rw [e] at h1
        exact h1
      · rw [z] at h1
        exact nm_e (nm_r (nI_1 j) h1)
    · rw [wY_ones_4]
      dsimp only
      rw [cr_ush x (by omega)]
      exact br_f h (nm_e (nm_r (nI_1 j) (hY post y1 y2 y3 y4 y5 y6 y7 y8 y9 y10 y11 y12 y13 y14 y15 y16 y17 y18 y19 y20 hp)))
theorem cr_bits (x : Int32) : ∃ r : Int32, (∀ post : Int32 → Prop, post r → wpX_countBits post x) ∧ (∀ (post : Int32 → Prop) (v : SY), post r → wpY_ones post v x) := by
  obtain ⟨r, hX, hY⟩ := cr_cb x 32 0 0 rfl
  refine ⟨r, fun post hp => ⟨32 + 1, hX post hp⟩, fun post v hp => ?_⟩
  obtain ⟨y1, y2, y3, y4, y5, y6, y7, y8, y9, y10, y11, y12, y13, y14, y15, y16, y17, y18, y19, y20⟩ := v
  exact ⟨32 + 1, hY post y1 y2 y3 y4 y5 y6 y7 y8 y9 y10 y11 y12 y13 y14 y15 y16 y17 y18 y19 y20 hp⟩
theorem i_vc_start {k : Nat} {u : SX} {v : SY} (I : i_Rel k u v) (hk : k + 4 ≤ 2048) (v1 : Int32) : wpX_start (fun r u' => wpY_start (fun r' v' => r' = r ∧ i_Rel (k + 4) u' v') v v1) u v1 := by
  have I' := I
  obtain ⟨n, s, f, t, c, e, ms, ds, ls, ws, o, p, kn, mfA, moA, ser, sd, ya, mb, dta, ex, inc, ca, da, g, ib, rfl, rfl, hC, hD, ⟨o1, o2, o3, o4, o5, o6, o7, o8, o9⟩, hE, hS, hK⟩ := I
  unfold wpX_start
  dsimp only
  have bad : v1 < 0 ∨ nI 7305 ≤ v1 → wpX_start (fun r u' => wpY_start (fun r' v' => r' = r ∧ i_Rel (k + 4) u' v') (nI s, nI f, nI t, ms, ds, ls, ws, o, p, nI c, nI e, nI n, kn, ya, mb, dta, ex, inc, ca, da) v1) (nI n, nI s, nI f, nI t, ms, ds, ls, ws, o, p, nI c, nI e, mfA, moA, ser, sd) v1 := by
    intro hx
    unfold wpX_start wpY_start
    dsimp only
    exact cr_xis hx (br_t rfl (cr_yis hx (br_t rfl ⟨rfl, I'⟩)))
  rcases pk_ix v1 (n := 7305) (by decide) with hx | hx | ⟨j, hj, rfl⟩
  · exact bad (Or.inl hx)
  · exact bad (Or.inr hx)
  · refine cr_xid hj (br_f (by decide) (cr_xbuild (s := j) hC o1 hj o3 o4 o5 o6 (fun a' ha => ?_)))
    dsimp only
    refine cr_xwd hj ?_
    unfold wpY_start
    dsimp only
    exact cr_yid hj (br_f (by decide) (cr_ywd hj ⟨rfl, cr_mk0 (s := j) hC hD ⟨o1, hj, o3, o4, o5, o6, o7, o8, o9⟩ hE ha⟩))
theorem i_vc_frequency {k : Nat} {u : SX} {v : SY} (I : i_Rel k u v) (hk : k + 4 ≤ 2048) (v1 : Int32) (v2 : Int32) : wpX_frequency (fun r u' => wpY_frequency (fun r' v' => r' = r ∧ i_Rel (k + 4) u' v') v v1 v2) u v1 v2 := by
  have I' := I
  obtain ⟨n, s, f, t, c, e, ms, ds, ls, ws, o, p, kn, mfA, moA, ser, sd, ya, mb, dta, ex, inc, ca, da, g, ib, rfl, rfl, hC, hD, ⟨o1, o2, o3, o4, o5, o6, o7, o8, o9⟩, hE, hS, hK⟩ := I
  unfold wpX_frequency wpY_frequency
  dsimp only
  by_cases z1 : v1 < 0
  · exact br_t z1 (br_t z1 ⟨rfl, I'⟩)
  refine br_f z1 ?_
  by_cases z2 : 3 < v1
  · exact br_t z2 (br_f z1 (br_t z2 ⟨rfl, I'⟩))
  refine br_f z2 ?_
  by_cases z3 : v2 < 1
  · exact br_t z3 (br_f z1 (br_f z2 (br_t z3 ⟨rfl, I'⟩)))
  refine br_f z3 ?_
  by_cases z4 : v2 ≤ 20
  · obtain ⟨f', hf', rfl⟩ := nI_of2 (x := v1) (M := 3) (n := 3) (by decide) z1 (Int32.not_lt.mp z2)
    have z5 : ¬ v2 < 0 := fun z => z3 (Int32.lt_trans z (by decide))
    obtain ⟨t', ht', rfl⟩ := nI_of2 (x := v2) (M := 20) (n := 20) (by decide) z5 z4
    have ht1 : 1 ≤ t' := by
      cases t' with
      | zero => exact absurd (show nI 0 < 1 by decide) z3
      | succ t' => omega
    refine br_t z4 (cr_xbuild (f := f') (t := t') hC hf' o2 ht1 ht' o5 o6 (fun a' ha => ?_))
    exact br_f z1 (br_f z2 (br_f z3 (br_t z4 ⟨rfl, cr_mk0 (f := f') (t := t') hC hD ⟨hf', o2, ht1, ht', o5, o6, o7, o8, o9⟩ hE ha⟩)))
  · exact br_f z4 (br_f z1 (br_f z2 (br_f z3 (br_f z4 ⟨rfl, I'⟩))))
theorem i_vc_months {k : Nat} {u : SX} {v : SY} (I : i_Rel k u v) (hk : k + 4 ≤ 2048) (v1 : Int32) : wpX_months (fun r u' => wpY_months (fun r' v' => r' = r ∧ i_Rel (k + 4) u' v') v v1) u v1 := by
  obtain ⟨n, s, f, t, c, e, ms, ds, ls, ws, o, p, kn, mfA, moA, ser, sd, ya, mb, dta, ex, inc, ca, da, g, ib, rfl, rfl, hC, hD, ⟨o1, o2, o3, o4, o5, o6, o7, o8, o9⟩, hE, hS, hK⟩ := I
  unfold wpX_months wpY_months
  dsimp only
  refine nm_e (cr_xbuild hC o1 o2 o3 o4 o5 o6 (fun a' ha => ?_))
  dsimp only
  obtain ⟨r, hX, hY⟩ := cr_bits (v1 &&& 8190)
  exact hX _ (nm_e (hY _ _ ⟨rfl, cr_mk0 hC hD ⟨o1, o2, o3, o4, o5, o6, o7, o8, o9⟩ hE ha⟩))
theorem i_vc_monthDays {k : Nat} {u : SX} {v : SY} (I : i_Rel k u v) (hk : k + 4 ≤ 2048) (v1 : Int32) (v2 : Int32) : wpX_monthDays (fun r u' => wpY_monthDays (fun r' v' => r' = r ∧ i_Rel (k + 4) u' v') v v1 v2) u v1 v2 := by
  obtain ⟨n, s, f, t, c, e, ms, ds, ls, ws, o, p, kn, mfA, moA, ser, sd, ya, mb, dta, ex, inc, ca, da, g, ib, rfl, rfl, hC, hD, ⟨o1, o2, o3, o4, o5, o6, o7, o8, o9⟩, hE, hS, hK⟩ := I
  unfold wpX_monthDays wpY_monthDays
  dsimp only
  refine nm_e (nm_e (cr_xbuild hC o1 o2 o3 o4 o5 o6 (fun a' ha => ?_)))
  dsimp only
  obtain ⟨r, hX, hY⟩ := cr_bits (v1 &&& (-2))
  obtain ⟨r2, hX2, hY2⟩ := cr_bits (v2 &&& (-2))
  exact hX _ (hX2 _ (nm_e (nm_e (hY _ _ (hY2 _ _ ⟨rfl, cr_mk0 hC hD ⟨o1, o2, o3, o4, o5, o6, o7, o8, o9⟩ hE ha⟩)))))
theorem i_vc_weekDays {k : Nat} {u : SX} {v : SY} (I : i_Rel k u v) (hk : k + 4 ≤ 2048) (v1 : Int32) (v2 : Int32) : wpX_weekDays (fun r u' => wpY_weekDays (fun r' v' => r' = r ∧ i_Rel (k + 4) u' v') v v1 v2) u v1 v2 := by
  have I' := I
  obtain ⟨n, s, f, t, c, e, ms, ds, ls, ws, o, p, kn, mfA, moA, ser, sd, ya, mb, dta, ex, inc, ca, da, g, ib, rfl, rfl, hC, hD, ⟨o1, o2, o3, o4, o5, o6, o7, o8, o9⟩, hE, hS, hK⟩ := I
  unfold wpX_weekDays wpY_weekDays
  dsimp only
  by_cases z1 : v2 < (-5)
  · exact br_t z1 (br_t z1 ⟨rfl, I'⟩)
  refine br_f z1 ?_
  by_cases z2 : v2 ≤ 5
  · refine br_t z2 (nm_e (cr_xbuild hC o1 o2 o3 o4 o5 o6 (fun a' ha => ?_)))
    dsimp only
    obtain ⟨r, hX, hY⟩ := cr_bits (v1 &&& 127)
    exact hX _ (br_f z1 (br_t z2 (nm_e (hY _ _ ⟨rfl, cr_mk0 hC hD ⟨o1, o2, o3, o4, o5, o6, o7, o8, o9⟩ hE ha⟩))))
  · exact br_f z2 (br_f z1 (br_f z2 ⟨rfl, I'⟩))
theorem i_vc_position {k : Nat} {u : SX} {v : SY} (I : i_Rel k u v) (hk : k + 4 ≤ 2048) (v1 : Int32) : wpX_position (fun r u' => wpY_position (fun r' v' => r' = r ∧ i_Rel (k + 4) u' v') v v1) u v1 := by
  have I' := I
  obtain ⟨n, s, f, t, c, e, ms, ds, ls, ws, o, p, kn, mfA, moA, ser, sd, ya, mb, dta, ex, inc, ca, da, g, ib, rfl, rfl, hC, hD, ⟨o1, o2, o3, o4, o5, o6, o7, o8, o9⟩, hE, hS, hK⟩ := I
  unfold wpX_position wpY_position
  dsimp only
  by_cases z1 : v1 < (-10)
  · exact br_t z1 (br_t z1 ⟨rfl, I'⟩)
  refine br_f z1 ?_
  by_cases z2 : v1 ≤ 10
  · refine br_t z2 (cr_xbuild hC o1 o2 o3 o4 o5 o6 (fun a' ha => ?_))
    exact br_f z1 (br_t z2 ⟨rfl, cr_mk0 hC hD ⟨o1, o2, o3, o4, o5, o6, o7, z1, z2⟩ hE ha⟩)
  · exact br_f z2 (br_f z1 (br_f z2 ⟨rfl, I'⟩))
theorem i_vc_limit {k : Nat} {u : SX} {v : SY} (I : i_Rel k u v) (hk : k + 4 ≤ 2048) (v1 : Int32) (v2 : Int32) : wpX_limit (fun r u' => wpY_limit (fun r' v' => r' = r ∧ i_Rel (k + 4) u' v') v v1 v2) u v1 v2 := by
  have I' := I
  obtain ⟨n, s, f, t, c, e, ms, ds, ls, ws, o, p, kn, mfA, moA, ser, sd, ya, mb, dta, ex, inc, ca, da, g, ib, rfl, rfl, hC, hD, ⟨o1, o2, o3, o4, o5, o6, o7, o8, o9⟩, hE, hS, hK⟩ := I
  unfold wpX_limit wpY_limit
  dsimp only
  by_cases z1 : v1 < 0
  · exact br_t z1 (br_t z1 ⟨rfl, I'⟩)
  refine br_f z1 ?_
  by_cases z2 : v1 ≤ 500
  · refine br_t z2 ?_
    rcases pk_ix v2 (n := 7305) (by decide) with hx | hx | ⟨j, hj, rfl⟩
    · exact cr_xis (Or.inl hx) (br_t rfl (br_f z1 (br_t z2 (cr_yis (Or.inl hx) (br_t rfl ⟨rfl, I'⟩)))))
    · exact cr_xis (Or.inr hx) (br_t rfl (br_f z1 (br_t z2 (cr_yis (Or.inr hx) (br_t rfl ⟨rfl, I'⟩)))))
    · obtain ⟨c', hc', rfl⟩ := nI_of2 (x := v1) (M := 500) (n := 500) (by decide) z1 z2
      refine cr_xid hj (br_f (by decide) (cr_xbuild (c := c') (e := j) hC o1 o2 o3 o4 hc' hj (fun a' ha => ?_)))
      exact br_f z1 (br_t z2 (cr_yid hj (br_f (by decide) ⟨rfl, cr_mk0 (c := c') (e := j) hC hD ⟨o1, o2, o3, o4, hc', hj, o7, o8, o9⟩ hE ha⟩)))
  · exact br_f z2 (br_f z1 (br_f z2 ⟨rfl, I'⟩))
theorem i_vc_clear {k : Nat} {u : SX} {v : SY} (I : i_Rel k u v) (hk : k + 4 ≤ 2048) : wpX_clear (fun u' => wpY_clear (fun v' => i_Rel (k + 4) u' v') v) u := by
  obtain ⟨n, s, f, t, c, e, ms, ds, ls, ws, o, p, kn, mfA, moA, ser, sd, ya, mb, dta, ex, inc, ca, da, g, ib, rfl, rfl, hC, hD, ⟨o1, o2, o3, o4, o5, o6, o7, o8, o9⟩, hE, hS, hK⟩ := I
  unfold wpX_clear
  dsimp only
  refine cr_xreset hC (fun a' b' ha hb => ?_)
  unfold wpY_clear
  dsimp only
  exact cr_mk0 (n := 0) (s := 0) (f := 0) (t := 1) (c := 0) (e := 7304) (ms := 0) (ds := 0) (ls := 0) (ws := 0) (o := 0) (p := 0) (g := fun _ => 0) (ib := fun _ => true) hC hD cr_OK0 (cr_EX0 hb) ha
