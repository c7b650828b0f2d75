/-! Y's walk to the same candidate -/
def cr_k (f : Nat) : Nat := if f = 2 then 1 else 0
section
variable {n s f t c e d : Nat} {ms ds ls ws o p kn : Int32} {ya mb dta ex inc ca da : Nat → Int32} {post : Int32 → Prop}
theorem cr_yid {v : SY} (hd : d < 7305) (h : post 1) : wpY_isDay post v (nI d) := by
  obtain ⟨s, f, t, ms, ds, ls, ws, o, p, c, e, n, kn, ya, mb, dta, ex, inc, ca, da⟩ := v
  unfold wpY_isDay
  dsimp only
  exact br_f (nI_pos (by omega)) (br_f (nI_ge (b := 7305) hd (by decide)) h)
theorem cr_yis {v : SY} {x : Int32} (hx : x < 0 ∨ 7305 ≤ x) (h : post 0) : wpY_isDay post v x := by
  obtain ⟨s, f, t, ms, ds, ls, ws, o, p, c, e, n, kn, ya, mb, dta, ex, inc, ca, da⟩ := v
  unfold wpY_isDay
  dsimp only
  rcases hx with hx | hx
  · exact br_t hx h
  · by_cases z : x < 0
    · exact br_t z h
    · exact br_f z (br_t hx h)
theorem cr_ypo (hC : cr_CY ya mb dta) (hf : f ≤ 3) (hd : d < 7305) (h : post (nI (cr_per f d + cr_k f))) : wpY_period post (nI s, nI f, nI t, ms, ds, ls, ws, o, p, nI c, nI e, nI n, kn, ya, mb, dta, ex, inc, ca, da) (nI d) := by
  unfold wpY_period
  dsimp only
  have hi := cr_in hd
  have hm := cr_mo_lt hd
  have e0 := hC d hd
  have e1 : nI (cr_mo d / 12) * 12 + nI (cr_mo d % 12 + 1) = nI (cr_mo d + 1) := by
    have : nI (cr_mo d / 12) * 12 = nI (cr_mo d / 12 * 12) := pk_mul _ 12
    rw [this, nI_add]
    exact congrArg nI (by omega)
  rw [cr_cl hd, e0.1, e0.2.1, e1, cr_p7 hd]
  rcases (by omega : f = 0 ∨ f = 1 ∨ f = 2 ∨ f = 3) with rfl | rfl | rfl | rfl
  · exact br_t (by decide) h
  · exact br_f (by decide) (br_t (by decide) ⟨by decide, h⟩)
  · exact br_f (by decide) (br_f (by decide) (br_t (by decide) ⟨hi, hi, h⟩))
  · exact br_f (by decide) (br_f (by decide) (br_f (by decide) ⟨hi, h⟩))
theorem cr_ywd {v : SY} (hd : d < 7305) (h : post (nI ((d + 5) % 7))) : wpY_weekday post v (nI d) := by
  obtain ⟨s, f, t, ms, ds, ls, ws, o, p, c, e, n, kn, ya, mb, dta, ex, inc, ca, da⟩ := v
  unfold wpY_weekday
  dsimp only
  refine cr_yid hd (br_f (by decide) ?_)
  rw [cr_w7 hd]
  exact ⟨by decide, h⟩
theorem cr_yfy {v : SY} {y : Nat} (hy : y < 21) (h : post (nI (cr_mf (y * 12)))) : wpY_firstOfYear post v (nI y) := by
  obtain ⟨s, f, t, ms, ds, ls, ws, o, p, c, e, n, kn, ya, mb, dta, ex, inc, ca, da⟩ := v
  unfold wpY_firstOfYear
  dsimp only
  rw [cr_fy y hy] at h
  have e1 : (365 : Int32) * nI y = nI (365 * y) := pk_mul 365 y
  have e2 : nI y + 3 = nI (y + 3) := nI_add y 3
  rw [e1, e2, cr_div4 (by omega), nI_add]
  exact ⟨by decide, h⟩
theorem cr_y112 {lo hi : Nat} (h1 : lo ≤ d) (h2 : d < hi) (h3 : hi ≤ 7305) (h : post (cr_b (if o ≤ 0 then decide (nI ((hi - 1 - d) / 7 + 1) = -o) else decide (nI ((d - lo) / 7 + 1) = o)))) : wY_ranks_112 post (nI (hi - lo)) (nI (d - lo)) (nI s) (nI f) (nI t) ms ds ls ws o p (nI c) (nI e) (nI n) kn ya mb dta ex inc ca da := by
  unfold wY_ranks_112
  have e3 : nI (hi - lo) - 1 = nI (hi - lo - 1) := pk_sub (b := 1) (by omega)
  have e4 : hi - lo - 1 - (d - lo) = hi - 1 - d := by omega
  rw [e3, pk_sub (by omega), e4, cr_div7 (by omega), cr_div7 (by omega), nI_1, nI_1]
  by_cases z : o ≤ 0
  · rw [if_pos z] at h
    exact br_t z ⟨by decide, cr_sb h⟩
  · rw [if_neg z] at h
    exact br_f z ⟨by decide, cr_sb h⟩
theorem cr_y36 (hC : cr_CY ya mb dta) (hd : d < 7305) (h : post (cr_b (if o ≤ 0 then decide (nI ((cr_mf (cr_mo d + 1) - 1 - d) / 7 + 1) = -o) else decide (nI ((d - cr_mf (cr_mo d)) / 7 + 1) = o)))) : wY_ranks_37 post (nI d) 0 (nI s) (nI f) (nI t) ms ds ls ws o p (nI c) (nI e) (nI n) kn ya mb dta ex inc ca da := by
  unfold wY_ranks_37
  have hi := cr_in hd
  have hm := cr_mo_lt hd
  have h1 := cr_mo_in d
  have h2 := cr_mf_le (show cr_mo d + 1 ≤ 240 by omega)
  have h3 := cr_mf_s (cr_mo d)
  have e0 := hC d hd
  rw [cr_cl hd, e0.1, e0.2.1]
  refine br_t rfl ⟨hi, hi, cr_yle (i := cr_mo d) ?_ (by omega)⟩
  unfold wY_ranks_84
  rw [cr_cl hd, e0.2.2]
  have e1 : nI (cr_dt d) - 1 = nI (d - cr_mf (cr_mo d)) := by
    unfold cr_dt
    exact pk_sub (b := 1) (by omega)
  have e2 : cr_ml (cr_mo d) = cr_mf (cr_mo d + 1) - cr_mf (cr_mo d) := by omega
  rw [e1, e2]
  exact br_t rfl ⟨hi, cr_y112 h1.1 h1.2 h2 h⟩
theorem cr_y37 (hC : cr_CY ya mb dta) (hd : d < 7305) (h : post (cr_b (if o ≤ 0 then decide (nI ((cr_mf (cr_mo d / 12 * 12 + 12) - 1 - d) / 7 + 1) = -o) else decide (nI ((d - cr_mf (cr_mo d / 12 * 12)) / 7 + 1) = o)))) : wY_ranks_37 post (nI d) 1 (nI s) (nI f) (nI t) ms ds ls ws o p (nI c) (nI e) (nI n) kn ya mb dta ex inc ca da := by
  unfold wY_ranks_37
  have hi := cr_in hd
  have hm := cr_mo_lt hd
  have h1 := cr_mo_in d
  have e0 := hC d hd
  have g1 := cr_mono' (show cr_mo d / 12 * 12 ≤ cr_mo d by omega)
  have g2 := cr_mono' (show cr_mo d + 1 ≤ cr_mo d / 12 * 12 + 12 by omega)
  have g3 := cr_mf_le (show cr_mo d / 12 * 12 + 12 ≤ 240 by omega)
  rw [cr_cl hd, e0.1, nI_1]
  refine br_f (by decide) ⟨hi, cr_yfy (by omega) ⟨hi, cr_yfy (by omega) ?_⟩⟩
  have e3 : (cr_mo d / 12 + 1) * 12 = cr_mo d / 12 * 12 + 12 := by omega
  unfold wY_ranks_84
  rw [cr_cl hd, e0.1, e3, pk_sub (by omega)]
  refine br_f (by decide) ⟨hi, cr_yfy (by omega) ?_⟩
  rw [pk_sub (by omega)]
  exact cr_y112 (by omega) (by omega) g3 h
theorem cr_yrk (hC : cr_CY ya mb dta) (hf : f ≤ 3) (hd : d < 7305) (h : post (cr_b (cr_rk f ms o d))) : wpY_ranks post (nI s, nI f, nI t, ms, ds, ls, ws, o, p, nI c, nI e, nI n, kn, ya, mb, dta, ex, inc, ca, da) (nI d) := by
  unfold wpY_ranks
  dsimp only
  unfold cr_rk at h
  by_cases z : o = 0
  · rw [decide_eq_true z] at h
    exact br_t z h
  rw [decide_eq_false z, Bool.false_or] at h
  refine br_f z ?_
  rcases (by omega : f = 0 ∨ f = 1 ∨ f = 2 ∨ f = 3) with rfl | rfl | rfl | rfl
  · exact br_f (by decide) h
  · exact br_f (by decide) h
  · refine br_t (by decide) (br_f (by decide) ?_)
    unfold wY_ranks_36
    exact cr_y36 hC hd h
  · refine br_t (by decide) (br_t (by decide) ?_)
    by_cases z' : ms = 0
    · have a1 : cr_lo 3 ms d = cr_mo d / 12 * 12 := if_pos ⟨rfl, z'⟩
      have a2 : cr_ln 3 ms = 12 := if_pos ⟨rfl, z'⟩
      rw [a1, a2] at h
      exact br_t z' (cr_y37 hC hd h)
    · have a1 : cr_lo 3 ms d = cr_mo d := if_neg (fun k => z' k.2)
      have a2 : cr_ln 3 ms = 1 := if_neg (fun k => z' k.2)
      rw [a1, a2] at h
      refine br_f z' ?_
      unfold wY_ranks_36
      exact cr_y36 hC hd h
theorem cr_y134 {q : Bool} (hC : cr_CY ya mb dta) (hf : f ≤ 3) (hs : s < 7305) (hd : d < 7305) (hq : q = !(decide (ds = 0) && decide (ls = 0))) (h : post (cr_b (cr_fw f ms ws o d && cr_fs s f ms ds ls ws d))) : wY_isCandidate_134 post (nI d) (cr_b q) (nI s) (nI f) (nI t) ms ds ls ws o p (nI c) (nI e) (nI n) kn ya mb dta ex inc ca da := by
  unfold wY_isCandidate_134
  have hi := cr_in hd
  have hj := cr_in hs
  have e0 := hC d hd
  have e1 := hC s hs
  have hm := cr_mo_lt hd
  have hm' := cr_mo_lt hs
  have hr := cr_dt_r d
  have hr' := cr_dt_r s
  rw [cr_cl hd, cr_cl hs, e0.2.1, e0.2.2, e1.2.1, e1.2.2, nI_eq (by omega) (by omega), nI_eq (by omega) (by omega)]
  by_cases z : ws = 0
  · have a1 : cr_fw f ms ws o d = true := by unfold cr_fw; rw [decide_eq_true z]; rfl
    rw [a1, Bool.true_and] at h
    refine br_t z (cr_sel (fun k => ?_) (fun k => ?_))
    · rw [k] at hq
      have hq' : (decide (ds = 0) && decide (ls = 0)) = true := by
        cases w : (decide (ds = 0) && decide (ls = 0))
        · rw [w] at hq; exact hq
        · rfl
      simp only [Bool.and_eq_true, decide_eq_true_eq] at hq'
      obtain ⟨z1, z2⟩ := hq'
      unfold cr_fs at h
      rcases (by omega : f = 0 ∨ f = 1 ∨ f = 2 ∨ f = 3) with rfl | rfl | rfl | rfl
      · rw [if_neg (fun k => k.2.2.2 rfl)] at h
        exact br_t (by decide) h
      · rw [if_pos ⟨z1, z2, z, by decide⟩, if_pos rfl] at h
        refine br_f (by decide) (br_t (by decide) (cr_ywd hd (cr_ywd hs ?_)))
        rw [nI_eq (by omega) (by omega)]
        exact cr_sb h
      · rw [if_pos ⟨z1, z2, z, by decide⟩, if_neg (by decide)] at h
        refine br_f (by decide) (br_f (by decide) ⟨hi, hj, br_c (fun k => ?_) (fun k => ?_)⟩)
        · rw [decide_eq_true k] at h
          exact br_t (by decide) h
        · rw [decide_eq_false k] at h
          exact h
      · rw [if_pos ⟨z1, z2, z, by decide⟩, if_neg (by decide)] at h
        refine br_f (by decide) (br_f (by decide) ⟨hi, hj, br_c (fun k => br_f (by decide) ?_) (fun k => ?_)⟩)
        · rw [decide_eq_true k, Bool.true_and, decide_eq_false (show ¬ (3 : Nat) = 2 by decide), Bool.false_or] at h
          by_cases z4 : ms = 0
          · rw [decide_eq_false (show ¬ ms ≠ 0 from fun q => q z4), Bool.false_or] at h
            have e5 : (cr_mo d % 12 + 1 = cr_mo s % 12 + 1) ↔ cr_mo d % 12 = cr_mo s % 12 := by omega
            rw [e5]
            exact br_t z4 ⟨hi, hj, cr_sb h⟩
          · rw [decide_eq_true (show ms ≠ 0 from z4)] at h
            exact br_f z4 h
        · rw [decide_eq_false k] at h
          exact h
    · have a2 : cr_fs s f ms ds ls ws d = true := by
        unfold cr_fs
        refine if_neg (fun w => ?_)
        rw [k, decide_eq_true w.1, decide_eq_true w.2.1] at hq
        exact absurd hq (by decide)
      rw [a2] at h
      exact h
  · have a2 : cr_fs s f ms ds ls ws d = true := by
      unfold cr_fs
      exact if_neg (fun w => z w.2.2.1)
    unfold cr_fw at h
    rw [a2, Bool.and_true, decide_eq_false z, Bool.false_or] at h
    refine br_f z (cr_ywd hd ?_)
    rw [cr_ssh ws (by omega)]
    refine cr_sel (fun k => ?_) (fun k => ?_)
    · rw [k] at h; exact h
    · rw [k, Bool.true_and] at h
      refine cr_yrk hC hf hd (cr_sel (fun k' => ?_) (fun k' => ?_))
      · rw [k'] at h; exact h
      · rw [k'] at h; exact h
theorem cr_y98 {q : Bool} (hC : cr_CY ya mb dta) (hf : f ≤ 3) (hs : s < 7305) (hd : d < 7305) (hq : q = !(decide (ds = 0) && decide (ls = 0))) (h : post (cr_b (cr_fd ds ls d && cr_fw f ms ws o d && cr_fs s f ms ds ls ws d))) : wY_isCandidate_98 post (nI d) (nI (cr_fe d)) (cr_b q) (nI s) (nI f) (nI t) ms ds ls ws o p (nI c) (nI e) (nI n) kn ya mb dta ex inc ca da := by
  unfold wY_isCandidate_98
  have hi := cr_in hd
  have e0 := hC d hd
  have hr := cr_dt_r d
  have hr' := cr_fe_r d
  rw [cr_cl hd, e0.2.2, cr_ssh ds (by omega), cr_ssh ls (by omega)]
  refine cr_sel (fun k => ?_) (fun k => ⟨hi, ?_⟩)
  · have a1 : cr_fd ds ls d = true := by
      unfold cr_fd
      cases w : (decide (ds = 0) && decide (ls = 0))
      · rw [w, k] at hq
        exact absurd hq (by decide)
      · rfl
    rw [a1, Bool.true_and] at h
    exact cr_y134 hC hf hs hd hq h
  · have a1 : cr_fd ds ls d = (bt ds (cr_dt d) || bt ls (cr_fe d)) := by
      unfold cr_fd
      cases w : (decide (ds = 0) && decide (ls = 0))
      · rfl
      · rw [w, k] at hq
        exact absurd hq (by decide)
    rw [a1] at h
    refine cr_sel (fun k1 => cr_sel (fun k2 => ?_) (fun k2 => ?_)) (fun k1 => ?_)
    · rw [k1, k2] at h; exact h
    · rw [k2, Bool.or_true, Bool.true_and] at h
      exact cr_y134 hC hf hs hd hq h
    · rw [k1, Bool.true_or, Bool.true_and] at h
      exact cr_y134 hC hf hs hd hq h
theorem cr_y55 (hC : cr_CY ya mb dta) (hf : f ≤ 3) (hs : s < 7305) (hd : d < 7305) (h : post (cr_b (cr_fd ds ls d && cr_fw f ms ws o d && cr_fs s f ms ds ls ws d))) : wY_isCandidate_55 post (nI d) (nI s) (nI f) (nI t) ms ds ls ws o p (nI c) (nI e) (nI n) kn ya mb dta ex inc ca da := by
  unfold wY_isCandidate_55
  have hi := cr_in hd
  have hm := cr_mo_lt hd
  have e0 := hC d hd
  have hr := cr_dt_r d
  have hr' := cr_fe_r d
  rw [cr_cl hd, e0.1, e0.2.1, e0.2.2]
  refine ⟨hi, hi, cr_yle (i := cr_mo d) ⟨hi, nm_r (e' := nI (cr_fe d)) (by rw [pk_sub (by omega), nI_1]; exact congrArg nI hr'.2.2.symm) ?_⟩ (by omega)⟩
  rw [cr_or0]
  refine br_c (fun k => ?_) (fun k => ?_)
  · exact cr_y98 (q := false) hC hf hs hd (by rw [decide_eq_true k.1, decide_eq_true k.2]; rfl) h
  · refine cr_y98 (q := true) hC hf hs hd ?_ h
    by_cases z : ds = 0
    · rw [decide_eq_false (fun w => k ⟨z, w⟩), Bool.and_false]; rfl
    · rw [decide_eq_false z]; rfl
theorem cr_ycd (hC : cr_CY ya mb dta) (hf : f ≤ 3) (hs : s < 7305) (ht : 1 ≤ t) (ht' : t ≤ 20) (hd : d < 7305) (h : post (cr_b (cr_cd s f t ms ds ls ws o d))) : wpY_isCandidate post (nI s, nI f, nI t, ms, ds, ls, ws, o, p, nI c, nI e, nI n, kn, ya, mb, dta, ex, inc, ca, da) (nI d) := by
  unfold wpY_isCandidate
  dsimp only
  unfold cr_cd at h
  have hi := cr_in hd
  have hm := cr_mo_lt hd
  have e0 := hC d hd
  refine cr_ypo hC hf hd (cr_ypo hC hf hs (nm_e ?_))
  have h1 := cr_per_r f hd
  have h2 := cr_per_r f hs
  have h3 : cr_k f ≤ 1 := by unfold cr_k; split <;> omega
  have e1 : cr_per f d + cr_k f - (cr_per f s + cr_k f) = cr_per f d - cr_per f s := by omega
  refine cr_gap (by omega) (by omega) ht ht' (fun z => ?_) (fun z => ?_)
  · have e : cr_pc s f t d = false := by
      unfold cr_pc
      simp only [Bool.and_eq_false_iff, decide_eq_false_iff_not]
      by_cases z1 : cr_per f s ≤ cr_per f d
      · exact Or.inr fun z2 => z ⟨by omega, by rw [e1]; exact z2⟩
      · exact Or.inl z1
    rw [e] at h
    exact h
  · have e : cr_pc s f t d = true := by
      unfold cr_pc
      rw [decide_eq_true (show cr_per f s ≤ cr_per f d by omega), decide_eq_true (show (cr_per f d - cr_per f s) % t = 0 from e1 ▸ z.2)]
      rfl
    rw [e, Bool.true_and] at h
    unfold cr_fm at h
    by_cases z1 : ms = 0
    · rw [decide_eq_true z1, Bool.true_or, Bool.true_and] at h
      exact br_t z1 (cr_y55 hC hf hs hd h)
    · rw [decide_eq_false z1, Bool.false_or] at h
      rw [cr_cl hd, e0.2.1, cr_ssh ms (by omega)]
      refine br_f z1 ⟨hi, cr_sel (fun k => ?_) (fun k => ?_)⟩
      · rw [k] at h; exact h
      · rw [k, Bool.true_and] at h
        exact cr_y55 hC hf hs hd h
end
