/-! a candidate, as a pure function, and X's walk to it -/
def cr_pc (s f t d : Nat) : Bool := decide (cr_per f s ≤ cr_per f d) && decide ((cr_per f d - cr_per f s) % t = 0)
def cr_fm (ms : Int32) (d : Nat) : Bool := decide (ms = 0) || bt ms (cr_mo d % 12 + 1)
def cr_fd (ds ls : Int32) (d : Nat) : Bool := (decide (ds = 0) && decide (ls = 0)) || (bt ds (cr_dt d) || bt ls (cr_fe d))
def cr_lo (f : Nat) (ms : Int32) (d : Nat) : Nat := if f = 3 ∧ ms = 0 then cr_mo d / 12 * 12 else cr_mo d
def cr_ln (f : Nat) (ms : Int32) : Nat := if f = 3 ∧ ms = 0 then 12 else 1
def cr_rk (f : Nat) (ms o : Int32) (d : Nat) : Bool := decide (o = 0) || decide (f < 2) || (if o ≤ 0 then decide (nI ((cr_mf (cr_lo f ms d + cr_ln f ms) - 1 - d) / 7 + 1) = -o) else decide (nI ((d - cr_mf (cr_lo f ms d)) / 7 + 1) = o))
def cr_fw (f : Nat) (ms ws o : Int32) (d : Nat) : Bool := decide (ws = 0) || (bt ws ((d + 5) % 7) && cr_rk f ms o d)
def cr_fs (s f : Nat) (ms ds ls ws : Int32) (d : Nat) : Bool := if ds = 0 ∧ ls = 0 ∧ ws = 0 ∧ f ≠ 0 then (if f = 1 then decide ((d + 5) % 7 = (s + 5) % 7) else decide (cr_dt d = cr_dt s) && (decide (f = 2) || decide (ms ≠ 0) || decide (cr_mo d % 12 = cr_mo s % 12))) else true
def cr_cd (s f t : Nat) (ms ds ls ws o : Int32) (d : Nat) : Bool := cr_pc s f t d && cr_fm ms d && cr_fd ds ls d && cr_fw f ms ws o d && cr_fs s f ms ds ls ws d
theorem cr_lo_r (f : Nat) (ms : Int32) {d : Nat} (hd : d < 7305) : cr_lo f ms d + cr_ln f ms ≤ 240 ∧ cr_mf (cr_lo f ms d) ≤ d ∧ d < cr_mf (cr_lo f ms d + cr_ln f ms) := by
  have h1 := cr_mo_lt hd
  have h2 := cr_mo_in d
  unfold cr_lo cr_ln
  split
  · have h3 := cr_mono' (show cr_mo d / 12 * 12 ≤ cr_mo d by omega)
    have h4 := cr_mono' (show cr_mo d + 1 ≤ cr_mo d / 12 * 12 + 12 by omega)
    omega
  · omega
section
variable {n s f t c e d : Nat} {ms ds ls ws o p : Int32} {mfA moA ser sd : Nat → Int32} {post : Int32 → Prop}
theorem cr_xpo (hC : cr_CX mfA moA) (hf : f ≤ 3) (hd : d < 7305) (h : post (nI (cr_per f d))) : wpX_periodOf post (nI n, nI s, nI f, nI t, ms, ds, ls, ws, o, p, nI c, nI e, mfA, moA, ser, sd) (nI d) := by
  unfold wpX_periodOf
  dsimp only
  have hi := cr_in hd
  have e1 : moA (nI d).toNatClampNeg = nI (cr_mo d) := by rw [cr_cl hd]; exact hC.2 d hd
  have hm := cr_mo_lt hd
  rw [e1, cr_p7 hd, cr_div12 (by omega)]
  rcases (by omega : f = 0 ∨ f = 1 ∨ f = 2 ∨ f = 3) with rfl | rfl | rfl | rfl
  · exact br_f (by decide) (br_f (by decide) (br_t (by decide) h))
  · exact br_f (by decide) (br_f (by decide) (br_f (by decide) (br_t (by decide) ⟨by decide, h⟩)))
  · exact br_f (by decide) (br_f (by decide) (br_f (by decide) (br_f (by decide) (br_t (by decide) ⟨hi, h⟩))))
  · exact br_f (by decide) (br_t (by decide) ⟨hi, by decide, h⟩)
/-- the shared end of both period tests -/
theorem cr_gap {a b t : Nat} (ha : a < 2 ^ 29) (hb : b < 2 ^ 29) (ht : 1 ≤ t) (ht' : t ≤ 20) {A B : Prop} (h0 : ¬ (b ≤ a ∧ (a - b) % t = 0) → A) (h1 : b ≤ a ∧ (a - b) % t = 0 → B) : (nI a - nI b < 0 → A) ∧ (¬ nI a - nI b < 0 → (¬ nI t = 0 ∧ (((nI a - nI b) - (nI a - nI b) / nI t * nI t = 0 → B) ∧ (¬ (nI a - nI b) - (nI a - nI b) / nI t * nI t = 0 → A)))) := by
  by_cases z : b ≤ a
  · rw [pk_sub z, pk_rem (by omega) (by omega) (by omega)]
    have hm : (a - b) % t < 20 := Nat.lt_of_lt_of_le (Nat.mod_lt _ (by omega)) ht'
    refine br_f (nI_pos (by omega)) ⟨nI_ne0 (by omega) (by omega), ?_⟩
    by_cases w : (a - b) % t = 0
    · rw [w]
      exact br_t rfl (h1 ⟨z, w⟩)
    · exact br_f (nI_ne0 (by omega) (by omega)) (h0 fun k => w k.2)
  · exact br_t (pk_sneg (by omega) (by omega)) (h0 fun k => z k.1)
theorem cr_xpc (hC : cr_CX mfA moA) (hf : f ≤ 3) (hs : s < 7305) (ht : 1 ≤ t) (ht' : t ≤ 20) (hd : d < 7305) (h : post (cr_b (cr_pc s f t d))) : wpX_periodCountsIn post (nI n, nI s, nI f, nI t, ms, ds, ls, ws, o, p, nI c, nI e, mfA, moA, ser, sd) (nI d) := by
  unfold wpX_periodCountsIn
  dsimp only
  refine cr_xpo hC hf hd (cr_xpo hC hf hs (nm_e ?_))
  have h1 := cr_per_r f hd
  have h2 := cr_per_r f hs
  refine cr_gap (by omega) (by omega) ht ht' (fun z => ?_) (fun z => ?_)
  · have e : cr_pc s f t d = false := by
      unfold cr_pc
      simp only [Bool.and_eq_false_iff, decide_eq_false_iff_not]
      by_cases z1 : cr_per f s ≤ cr_per f d
      · exact Or.inr fun z2 => z ⟨z1, z2⟩
      · exact Or.inl z1
    rw [e] at h
    exact h
  · have e : cr_pc s f t d = true := by
      unfold cr_pc
      rw [decide_eq_true z.1, decide_eq_true z.2]
      rfl
    rw [e] at h
    exact h
theorem cr_xfm (hC : cr_CX mfA moA) (hd : d < 7305) (h : post (cr_b (cr_fm ms d))) : wpX_fitsMonths post (nI n, nI s, nI f, nI t, ms, ds, ls, ws, o, p, nI c, nI e, mfA, moA, ser, sd) (nI d) := by
  unfold wpX_fitsMonths
  dsimp only
  have hi := cr_in hd
  have e1 : moA (nI d).toNatClampNeg = nI (cr_mo d) := by rw [cr_cl hd]; exact hC.2 d hd
  have hm := cr_mo_lt hd
  rw [e1, cr_rem12 (by omega), nI_1]
  unfold cr_fm at h
  by_cases z : ms = 0
  · rw [decide_eq_true z] at h
    exact br_t z h
  · rw [decide_eq_false z, Bool.false_or] at h
    refine br_f z ⟨hi, by decide, cr_hb ms (by omega) (cr_sel (fun k => ?_) (fun k => ?_))⟩
    · rw [k] at h; exact h
    · rw [k] at h; exact h
theorem cr_xdm (hC : cr_CX mfA moA) (hd : d < 7305) (h : post (nI (cr_dt d))) : wpX_dayOfMonthOf post (nI n, nI s, nI f, nI t, ms, ds, ls, ws, o, p, nI c, nI e, mfA, moA, ser, sd) (nI d) := by
  unfold wpX_dayOfMonthOf
  dsimp only
  have hi := cr_in hd
  have e1 : moA (nI d).toNatClampNeg = nI (cr_mo d) := by rw [cr_cl hd]; exact hC.2 d hd
  have hm := cr_mo_lt hd
  have h1 := cr_mo_in d
  rw [e1, nI_clamp (by omega), hC.1 _ (by omega), pk_sub h1.1, nI_1]
  exact ⟨hi, vp_in_nI (by omega) (by decide), h⟩
theorem cr_xfd16 (hC : cr_CX mfA moA) (hd : d < 7305) (h : post (cr_b (bt ds (cr_dt d) || bt ls (cr_fe d)))) : wX_fitsMonthDays_16 post (nI d) (nI n) (nI s) (nI f) (nI t) ms ds ls ws o p (nI c) (nI e) mfA moA ser sd := by
  unfold wX_fitsMonthDays_16
  have hi := cr_in hd
  have e1 : moA (nI d).toNatClampNeg = nI (cr_mo d) := by rw [cr_cl hd]; exact hC.2 d hd
  have hm := cr_mo_lt hd
  have h1 := cr_mo_in d
  have h2 := cr_dt_r d
  have h3 := cr_fe_r d
  rw [e1, nI_1, nI_clamp (by omega), hC.1 _ (by omega), pk_sub (by omega)]
  refine ⟨hi, vp_in_nI (by omega) (by decide), nm_e (cr_xdm hC hd (cr_hb ds (by omega) (cr_sel (fun k => ?_) (fun k => ?_))))⟩
  · refine cr_hb (k := cr_fe d) ls (by omega) (cr_sel (fun k' => ?_) (fun k' => ?_))
    · rw [k, k'] at h; exact h
    · rw [k, k'] at h; exact h
  · rw [k] at h; exact h
theorem cr_xfd (hC : cr_CX mfA moA) (hd : d < 7305) (h : post (cr_b (cr_fd ds ls d))) : wpX_fitsMonthDays post (nI n, nI s, nI f, nI t, ms, ds, ls, ws, o, p, nI c, nI e, mfA, moA, ser, sd) (nI d) := by
  unfold wpX_fitsMonthDays
  dsimp only
  unfold cr_fd at h
  by_cases z : ds = 0
  · by_cases z' : ls = 0
    · rw [decide_eq_true z, decide_eq_true z'] at h
      exact br_t z (br_t z' h)
    · rw [decide_eq_false z', Bool.and_false, Bool.false_or] at h
      exact br_t z (br_f z' (cr_xfd16 hC hd h))
  · rw [decide_eq_false z, Bool.false_and, Bool.false_or] at h
    exact br_f z (cr_xfd16 hC hd h)
theorem cr_xwd (hd : d < 7305) (h : post (nI ((d + 5) % 7))) : wpX_weekdayOf post (nI d) := by
  unfold wpX_weekdayOf
  rw [cr_w7 hd]
  exact ⟨by decide, h⟩
theorem cr_sb {c : Prop} {dc : Decidable c} {A : Int32 → Prop} (h : A (cr_b (decide c))) : (c → A 1) ∧ (¬ c → A 0) := by
  by_cases z : c
  · rw [decide_eq_true z] at h
    exact br_t z h
  · rw [decide_eq_false z] at h
    exact br_f z h
theorem cr_xfo59 {lo ln : Nat} (hC : cr_CX mfA moA) (hl : 1 ≤ ln) (h1 : lo + ln ≤ 240) (h2 : cr_mf lo ≤ d) (h3 : d < cr_mf (lo + ln)) (h : post (cr_b (if o ≤ 0 then decide (nI ((cr_mf (lo + ln) - 1 - d) / 7 + 1) = -o) else decide (nI ((d - cr_mf lo) / 7 + 1) = o)))) : wX_fitsOrdinal_59 post (nI d) (nI lo) (nI ln) (nI n) (nI s) (nI f) (nI t) ms ds ls ws o p (nI c) (nI e) mfA moA ser sd := by
  unfold wX_fitsOrdinal_59
  have h4 := cr_mf_le h1
  have e1 : mfA (nI (lo + ln)).toNatClampNeg = nI (cr_mf (lo + ln)) := by rw [nI_clamp (by omega)]; exact hC.1 _ h1
  have e2 : mfA (nI lo).toNatClampNeg = nI (cr_mf lo) := by rw [nI_clamp (by omega)]; exact hC.1 _ (by omega)
  have e3 : nI (cr_mf (lo + ln)) - 1 = nI (cr_mf (lo + ln) - 1) := pk_sub (b := 1) (by omega)
  rw [nI_add, e1, e2, e3, pk_sub (by omega), pk_sub h2, cr_div7 (by omega), cr_div7 (by omega), nI_1, nI_1]
  by_cases z : o ≤ 0
  · rw [if_pos z] at h
    exact br_t z ⟨vp_in_nI (by omega) (by decide), by decide, cr_sb h⟩
  · rw [if_neg z] at h
    exact br_f z ⟨vp_in_nI (by omega) (by decide), by decide, cr_sb h⟩
theorem cr_xfo (hC : cr_CX mfA moA) (hf : f ≤ 3) (hd : d < 7305) (h : post (cr_b (cr_rk f ms o d))) : wpX_fitsOrdinal post (nI n, nI s, nI f, nI t, ms, ds, ls, ws, o, p, nI c, nI e, mfA, moA, ser, sd) (nI d) := by
  unfold wpX_fitsOrdinal
  dsimp only
  have hi := cr_in hd
  have e1 : moA (nI d).toNatClampNeg = nI (cr_mo d) := by rw [cr_cl hd]; exact hC.2 d hd
  have hm := cr_mo_lt hd
  have hl := cr_lo_r f ms hd
  have e2 : nI (cr_mo d / 12) * 12 = nI (cr_mo d / 12 * 12) := pk_mul _ 12
  rw [e1]
  unfold cr_rk at h
  by_cases z : o = 0
  · rw [decide_eq_true z] at h
    exact br_t z h
  rw [decide_eq_false z, Bool.false_or] at h
  refine br_f z ?_
  rcases (by omega : f = 0 ∨ f = 1 ∨ f = 2 ∨ f = 3) with rfl | rfl | rfl | rfl
  · exact br_t (by decide) h
  · exact br_f (by decide) (br_t (by decide) h)
  · exact br_f (by decide) (br_f (by decide) ⟨hi, nm_e (br_f (by decide) (cr_xfo59 (lo := cr_mo d) (ln := 1) hC (by decide) hl.1 hl.2.1 hl.2.2 h))⟩)
  · refine br_f (by decide) (br_f (by decide) ⟨hi, nm_e (br_t (by decide) ?_)⟩)
    by_cases z' : ms = 0
    · have a1 : cr_lo 3 ms d = cr_mo d / 12 * 12 := if_pos ⟨rfl, z'⟩
      have a2 : cr_ln 3 ms = 12 := if_pos ⟨rfl, z'⟩
      rw [a1, a2] at h hl
      refine br_t z' ⟨by decide, nm_r (e' := nI (cr_mo d / 12 * 12)) (by rw [cr_div12 (by omega)]; exact e2) ?_⟩
      exact cr_xfo59 (lo := cr_mo d / 12 * 12) (ln := 12) hC (by decide) hl.1 hl.2.1 hl.2.2 h
    · have a1 : cr_lo 3 ms d = cr_mo d := if_neg (fun k => z' k.2)
      have a2 : cr_ln 3 ms = 1 := if_neg (fun k => z' k.2)
      rw [a1, a2] at h hl
      exact br_f z' (cr_xfo59 (lo := cr_mo d) (ln := 1) hC (by decide) hl.1 hl.2.1 hl.2.2 h)
theorem cr_xfw (hC : cr_CX mfA moA) (hf : f ≤ 3) (hd : d < 7305) (h : post (cr_b (cr_fw f ms ws o d))) : wpX_fitsWeekdays post (nI n, nI s, nI f, nI t, ms, ds, ls, ws, o, p, nI c, nI e, mfA, moA, ser, sd) (nI d) := by
  unfold wpX_fitsWeekdays
  dsimp only
  unfold cr_fw at h
  by_cases z : ws = 0
  · rw [decide_eq_true z] at h
    exact br_t z h
  rw [decide_eq_false z, Bool.false_or] at h
  refine br_f z (cr_xwd hd (cr_hb ws (by omega) (cr_sel (fun k => ?_) (fun k => ?_))))
  · rw [k] at h; exact h
  · rw [k, Bool.true_and] at h
    refine cr_xfo hC hf hd (cr_sel (fun k' => ?_) (fun k' => ?_))
    · rw [k'] at h; exact h
    · rw [k'] at h; exact h
theorem cr_xfs (hC : cr_CX mfA moA) (hf : f ≤ 3) (hs : s < 7305) (hd : d < 7305) (h : post (cr_b (cr_fs s f ms ds ls ws d))) : wpX_fitsStart post (nI n, nI s, nI f, nI t, ms, ds, ls, ws, o, p, nI c, nI e, mfA, moA, ser, sd) (nI d) := by
  unfold wpX_fitsStart
  dsimp only
  have hi := cr_in hd
  have hj := cr_in hs
  have e1 : moA (nI d).toNatClampNeg = nI (cr_mo d) := by rw [cr_cl hd]; exact hC.2 d hd
  have e2 : moA (nI s).toNatClampNeg = nI (cr_mo s) := by rw [cr_cl hs]; exact hC.2 s hs
  have hm := cr_mo_lt hd
  have hm' := cr_mo_lt hs
  have hq := cr_dt_r d
  have hq' := cr_dt_r s
  rw [e1, e2, cr_rem12 (by omega), cr_rem12 (by omega)]
  unfold cr_fs at h
  by_cases z1 : ds = 0
  · by_cases z2 : ls = 0
    · by_cases z3 : ws = 0
      · refine br_t z1 (br_t z2 (br_t z3 ?_))
        rcases (by omega : f = 0 ∨ f = 1 ∨ f = 2 ∨ f = 3) with rfl | rfl | rfl | rfl
        · rw [if_neg (fun k => k.2.2.2 rfl)] at h
          exact br_t (by decide) h
        · rw [if_pos ⟨z1, z2, z3, by decide⟩, if_pos rfl] at h
          refine br_f (by decide) (br_t (by decide) (cr_xwd hd (cr_xwd hs ?_)))
          rw [nI_eq (by omega) (by omega)]
          exact cr_sb h
        · rw [if_pos ⟨z1, z2, z3, by decide⟩, if_neg (by decide)] at h
          refine br_f (by decide) (br_f (by decide) (cr_xdm hC hd (cr_xdm hC hs ?_)))
          rw [nI_eq (by omega) (by omega)]
          refine br_c (fun k => ?_) (fun k => ?_)
          · rw [decide_eq_true k] at h
            exact br_t (by decide) h
          · rw [decide_eq_false k] at h
            exact h
        · rw [if_pos ⟨z1, z2, z3, by decide⟩, if_neg (by decide)] at h
          refine br_f (by decide) (br_f (by decide) (cr_xdm hC hd (cr_xdm hC hs ?_)))
          rw [nI_eq (by omega) (by omega), nI_eq (by omega) (by omega)]
          refine br_c (fun k => br_f (by decide) ?_) (fun k => ?_)
          · rw [decide_eq_true k, Bool.true_and] at h
            by_cases z4 : ms = 0
            · rw [decide_eq_false (show ¬ (3 : Nat) = 2 by decide), decide_eq_false (show ¬ ms ≠ 0 from fun q => q z4), Bool.false_or, Bool.false_or] at h
              exact br_t z4 ⟨hi, by decide, hj, by decide, cr_sb h⟩
            · rw [decide_eq_true (show ms ≠ 0 from z4)] at h
              exact br_f z4 h
          · rw [decide_eq_false k] at h
            exact h
      · rw [if_neg (fun k => z3 k.2.2.1)] at h
        exact br_t z1 (br_t z2 (br_f z3 h))
    · rw [if_neg (fun k => z2 k.2.1)] at h
      exact br_t z1 (br_f z2 h)
  · rw [if_neg (fun k => z1 k.1)] at h
    exact br_f z1 h
theorem cr_xcd (hC : cr_CX mfA moA) (hf : f ≤ 3) (hs : s < 7305) (ht : 1 ≤ t) (ht' : t ≤ 20) (hd : d < 7305) (h : post (cr_b (cr_cd s f t ms ds ls ws o d))) : wpX_isCandidate post (nI n, nI s, nI f, nI t, ms, ds, ls, ws, o, p, nI c, nI e, mfA, moA, ser, sd) (nI d) := by
  unfold wpX_isCandidate
  dsimp only
  unfold cr_cd at h
  refine cr_xpc hC hf hs ht ht' hd (cr_sel (fun k => ?_) (fun k => ?_))
  · rw [k] at h; exact h
  rw [k, Bool.true_and] at h
  refine cr_xfm hC hd (cr_sel (fun k => ?_) (fun k => ?_))
  · rw [k] at h; exact h
  rw [k, Bool.true_and] at h
  refine cr_xfd hC hd (cr_sel (fun k => ?_) (fun k => ?_))
  · rw [k] at h; exact h
  rw [k, Bool.true_and] at h
  refine cr_xfw hC hf hd (cr_sel (fun k => ?_) (fun k => ?_))
  · rw [k] at h; exact h
  rw [k, Bool.true_and] at h
  refine cr_xfs hC hf hs hd (cr_sel (fun k => ?_) (fun k => ?_))
  · rw [k] at h; exact h
  · rw [k] at h; exact h
end
