/-! the series, as a pure function, and X's walk to it -/
def cr_cu (pr : Nat → Nat) (cd : Nat → Bool) : Nat → Nat
  | 0 => 0
  | d + 1 => if pr (d + 1) = pr d then cr_cu pr cd d + (if cd d then 1 else 0) else 0
theorem cr_cu_s (pr : Nat → Nat) (cd : Nat → Bool) (d : Nat) : cr_cu pr cd (d + 1) = if pr (d + 1) = pr d then cr_cu pr cd d + (if cd d then 1 else 0) else 0 := rfl
theorem cr_cu_r (pr : Nat → Nat) (cd : Nat → Bool) (d : Nat) : cr_cu pr cd d ≤ d := by
  induction d with
  | zero => exact Nat.le_refl _
  | succ d ih =>
    rw [cr_cu_s]
    split
    · split <;> omega
    · omega
def cr_ix (up : Bool) (j : Nat) : Nat := if up then j else 7304 - j
theorem cr_ix_r (up : Bool) {j : Nat} (h : j < 7305) : cr_ix up j < 7305 := by unfold cr_ix; split <;> omega
theorem cr_ix_ix (up : Bool) {j : Nat} (h : j < 7305) : cr_ix up (cr_ix up j) = j := by
  cases up
  · show 7304 - (7304 - j) = j
    omega
  · rfl
theorem cr_ix_ne (up : Bool) {i j : Nat} (hi : i < 7305) (hj : j < 7305) (h : i ≠ j) : cr_ix up i ≠ cr_ix up j := by
  intro z
  apply h
  rw [← cr_ix_ix up hi, z, cr_ix_ix up hj]
def cr_kq (up : Bool) (w : Int32) (pr : Nat → Nat) (cd : Nat → Bool) (i : Nat) : Bool := cd (cr_ix up i) && decide (nI (cr_cu (fun j => pr (cr_ix up j)) (fun j => cd (cr_ix up j)) i + 1) = w)
def cr_kp (pr : Nat → Nat) (cd : Nat → Bool) (p : Int32) (d : Nat) : Bool := if p = 0 then cd d else if p ≤ 0 then cr_kq false (-p) pr cd (cr_ix false d) else cr_kq true p pr cd d
def cr_tk (c : Nat) (st : Nat → Bool) : Nat → Nat
  | 0 => 0
  | d + 1 => cr_tk c st d + (if (decide (c = 0) || decide (cr_tk c st d < c)) && st d then 1 else 0)
def cr_sr (c : Nat) (st : Nat → Bool) (d : Nat) : Bool := (decide (c = 0) || decide (cr_tk c st d < c)) && st d
theorem cr_tk_s (c : Nat) (st : Nat → Bool) (d : Nat) : cr_tk c st (d + 1) = cr_tk c st d + (if cr_sr c st d then 1 else 0) := rfl
theorem cr_tk_r (c : Nat) (st : Nat → Bool) (d : Nat) : cr_tk c st d ≤ d := by
  induction d with
  | zero => exact Nat.le_refl _
  | succ d ih =>
    rw [cr_tk_s]
    split <;> omega
def cr_ste (s e : Nat) (kp : Nat → Bool) (d : Nat) : Bool := kp d && (decide (s ≤ d) && decide (d ≤ e))
def cr_se (s f t : Nat) (ms ds ls ws o p : Int32) (c e : Nat) : Nat → Bool := cr_sr c (cr_ste s e (cr_kp (cr_per f) (cr_cd s f t ms ds ls ws o) p))
section
variable {n s f t c e : Nat} {ms ds ls ws o p : Int32} {mfA moA sd : Nat → Int32} {post : SX → Prop}
theorem cr_xc71 {J : Int32 → Int32 → (Nat → Int32) → (Nat → Int32) → (Nat → Int32) → (Nat → Int32) → Prop} {a : Nat → Int32} {k j : Nat} {v : Bool} (hj : j < 7305) (h : J (nI (k + (if v then 1 else 0))) (nI (j + 1)) mfA moA (upd a j (cr_b v)) sd) : wX_cutToLimits_71 post J (nI k) (nI j) (cr_b v) (nI j) (nI n) (nI s) (nI f) (nI t) ms ds ls ws o p (nI c) (nI e) mfA moA a sd := by
  unfold wX_cutToLimits_71
  rw [cr_cl hj, cr_nz]
  refine ⟨cr_in hj, nm_e ⟨cr_in hj, ?_⟩⟩
  rw [pk_us]
  cases v
  · exact br_t rfl (nm_r (nI_1 j) h)
  · exact br_f (by decide) (nm_r (nI_1 k) (nm_r (nI_1 j) h))
theorem cr_xc31 {J : Int32 → Int32 → (Nat → Int32) → (Nat → Int32) → (Nat → Int32) → (Nat → Int32) → Prop} {a : Nat → Int32} {k j : Nat} {v r : Bool} {kp : Nat → Bool} (hs : s < 7305) (he : e < 7305) (hj : j < 7305) (ha : a j = cr_b (kp j)) (hv : v = (r && cr_ste s e kp j)) (h : J (nI (k + (if v then 1 else 0))) (nI (j + 1)) mfA moA (upd a j (cr_b v)) sd) : wX_cutToLimits_31 post J (nI k) (nI j) (cr_b r) (nI n) (nI s) (nI f) (nI t) ms ds ls ws o p (nI c) (nI e) mfA moA a sd := by
  unfold wX_cutToLimits_31 wX_cutToLimits_70
  rw [cr_cl hj, ha]
  unfold cr_ste at hv
  refine ⟨cr_in hj, cr_sel (fun z => ?_) (fun z => ?_)⟩
  · rw [z, Bool.false_and, Bool.and_false] at hv
    rw [hv] at h
    exact cr_xc71 (v := false) hj h
  · rw [z, Bool.true_and] at hv
    refine pk_lt j s (fun g => ?_) (fun g => pk_lt e j (fun g' => ?_) (fun g' => cr_sel (fun z' => ?_) (fun z' => ?_)))
    · rw [decide_eq_false (by omega), Bool.false_and, Bool.and_false] at hv
      rw [hv] at h
      exact cr_xc71 (v := false) hj h
    · rw [decide_eq_false (show ¬ j ≤ e by omega), Bool.and_false, Bool.and_false] at hv
      rw [hv] at h
      exact cr_xc71 (v := false) hj h
    · rw [z', Bool.false_and] at hv
      rw [hv] at h
      exact cr_xc71 (v := false) hj h
    · rw [z', decide_eq_true g, decide_eq_true g'] at hv
      rw [hv] at h
      exact cr_xc71 (v := true) hj h
theorem cr_xc4 {kp : Nat → Bool} (hs : s < 7305) (he : e < 7305) (hc : c ≤ 500) (hp : ∀ a', (∀ i, i < 7305 → a' i = cr_b (cr_sr c (cr_ste s e kp) i)) → post (nI n, nI s, nI f, nI t, ms, ds, ls, ws, o, p, nI c, nI e, mfA, moA, a', sd)) : ∀ (k j : Nat) (a : Nat → Int32), j + k = 7305 → (∀ i, i < j → a i = cr_b (cr_sr c (cr_ste s e kp) i)) → (∀ i, j ≤ i → i < 7305 → a i = cr_b (kp i)) → wX_cutToLimits_4 post (nI n) (nI s) (nI f) (nI t) ms ds ls ws o p (nI c) (nI e) (k + 1) (nI (cr_tk c (cr_ste s e kp) j)) (nI j) mfA moA a sd := by
  intro k
  induction k with
  | zero =>
    intro j a hj h1 h2
    unfold wX_cutToLimits_4
    exact br_t (nI_le (a := 7305) (by omega) (by omega)) (hp a (fun i hi => h1 i (by omega)))
  | succ k ih =>
    intro j a hj h1 h2
    have hj' : j < 7305 := by omega
    have ht := cr_tk_r c (cr_ste s e kp) j
    rw [wX_cutToLimits_4]
    unfold wX_cutToLimits_26
    refine br_f (nI_ge (b := 7305) hj' (by decide)) ?_
    have step : ∀ r : Bool, r = (decide (c = 0) || decide (cr_tk c (cr_ste s e kp) j < c)) → wX_cutToLimits_31 post (wX_cutToLimits_4 post (nI n) (nI s) (nI f) (nI t) ms ds ls ws o p (nI c) (nI e) (k + 1)) (nI (cr_tk c (cr_ste s e kp) j)) (nI j) (cr_b r) (nI n) (nI s) (nI f) (nI t) ms ds ls ws o p (nI c) (nI e) mfA moA a sd := by
      intro r hr
      refine cr_xc31 (v := cr_sr c (cr_ste s e kp) j) (kp := kp) hs he hj' (h2 j (Nat.le_refl _) hj') (by rw [hr]; rfl) ?_
      rw [← cr_tk_s]
      refine ih (j + 1) _ (by omega) (fun i hi => ?_) (fun i hi hi' => ?_)
      · by_cases z : i = j
        · rw [z, pk_us]
        · rw [pk_un z]
          exact h1 i (by omega)
      · rw [pk_un (by omega)]
        exact h2 i (by omega) hi'
    by_cases z : c = 0
    · refine br_t (by rw [z]; rfl) (step true ?_)
      rw [decide_eq_true z]; rfl
    · refine br_f (nI_ne0 (by omega) (by omega)) (pk_le c (cr_tk c (cr_ste s e kp) j) (fun g => ?_) (fun g => ?_))
      · exact step false (by rw [decide_eq_false z, decide_eq_false (by omega)]; rfl)
      · exact step true (by rw [decide_eq_true g, Bool.or_true])
theorem cr_xcut {kp : Nat → Bool} {a : Nat → Int32} (hs : s < 7305) (he : e < 7305) (hc : c ≤ 500) (ha : ∀ i, i < 7305 → a i = cr_b (kp i)) (hp : ∀ a', (∀ i, i < 7305 → a' i = cr_b (cr_sr c (cr_ste s e kp) i)) → post (nI n, nI s, nI f, nI t, ms, ds, ls, ws, o, p, nI c, nI e, mfA, moA, a', sd)) : wpX_cutToLimits post (nI n, nI s, nI f, nI t, ms, ds, ls, ws, o, p, nI c, nI e, mfA, moA, a, sd) := by
  unfold wpX_cutToLimits
  dsimp only
  exact ⟨7305 + 1, cr_xc4 hs he hc hp 7305 0 a rfl (fun i hi => absurd hi (by omega)) (fun i _ hi => ha i hi)⟩
/-! the position -/
theorem cr_xk83 {J : Int32 → Int32 → Int32 → (Nat → Int32) → (Nat → Int32) → (Nat → Int32) → (Nat → Int32) → Prop} {x1 w x3 : Int32} {a : Nat → Int32} {m j dd : Nat} {b : Bool} (hd : dd < 7305) (ha : a dd = cr_b b) (h : ∀ a', a' dd = cr_b (b && decide (nI (m + 1) = w)) → (∀ i, i ≠ dd → a' i = a i) → J x3 (nI (m + (if b then 1 else 0))) (nI (j + 1)) mfA moA a' sd) : wX_keepOneOfEachPeriod_83 post J x1 w x3 (nI m) (nI j) (nI dd) (nI n) (nI s) (nI f) (nI t) ms ds ls ws o p (nI c) (nI e) mfA moA a sd := by
  unfold wX_keepOneOfEachPeriod_83
  rw [cr_cl hd, ha]
  refine ⟨cr_in hd, cr_sel (fun z => nm_r (nI_1 j) ?_) (fun z => nm_r (nI_1 m) (br_c (fun g => ⟨cr_in hd, nm_e (nm_r (nI_1 j) ?_)⟩) (fun g => ⟨cr_in hd, nm_e (nm_r (nI_1 j) ?_)⟩)))⟩
  · rw [z] at h
    exact h a (by rw [ha, z]; rfl) (fun _ _ => rfl)
  · rw [z] at h
    exact h _ (by rw [pk_us, decide_eq_true g]; rfl) (fun i hi => pk_un hi)
  · rw [z] at h
    exact h _ (by rw [pk_us, decide_eq_false g]; rfl) (fun i hi => pk_un hi)
theorem cr_nm1 {a : Nat} (h : a < 2 ^ 31) : ¬ nI a = -1 := by
  intro z
  have h1 := nI_pos h
  rw [z] at h1
  exact h1 (by decide)
def cr_cur (pr : Nat → Nat) : Nat → Int32
  | 0 => -1
  | j + 1 => nI (pr j)
def cr_sn (pr : Nat → Nat) (cd : Nat → Bool) : Nat → Nat
  | 0 => 0
  | j + 1 => cr_cu pr cd j + (if cd j then 1 else 0)
theorem cr_xk61 {J : Int32 → Int32 → Int32 → (Nat → Int32) → (Nat → Int32) → (Nat → Int32) → (Nat → Int32) → Prop} {up : Bool} {cd : Nat → Bool} {x1 w : Int32} {a : Nat → Int32} {j : Nat} (hC : cr_CX mfA moA) (hf : f ≤ 3) (hj : j < 7305) (h : wX_keepOneOfEachPeriod_83 post J x1 w (nI (cr_per f (cr_ix up j))) (nI (cr_cu (fun j => cr_per f (cr_ix up j)) cd j)) (nI j) (nI (cr_ix up j)) (nI n) (nI s) (nI f) (nI t) ms ds ls ws o p (nI c) (nI e) mfA moA a sd) : wX_keepOneOfEachPeriod_61 post J x1 w (cr_cur (fun j => cr_per f (cr_ix up j)) j) (nI (cr_sn (fun j => cr_per f (cr_ix up j)) cd j)) (nI j) (nI (cr_ix up j)) (nI n) (nI s) (nI f) (nI t) ms ds ls ws o p (nI c) (nI e) mfA moA a sd := by
  unfold wX_keepOneOfEachPeriod_61
  have hr := cr_per_r f (cr_ix_r up hj)
  refine cr_xpo hC hf (cr_ix_r up hj) ?_
  cases j with
  | zero => exact br_f (cr_nm1 (by omega)) h
  | succ j =>
    have hr' := cr_per_r f (cr_ix_r up (show j < 7305 by omega))
    have e1 : cr_cur (fun j => cr_per f (cr_ix up j)) (j + 1) = nI (cr_per f (cr_ix up j)) := rfl
    rw [e1]
    refine pk_eq _ _ (fun g => ?_) (fun g => ?_)
    · rw [cr_cu_s, if_pos g, g] at h
      exact h
    · rw [cr_cu_s, if_neg g] at h
      exact h
theorem cr_xk38 {up : Bool} {cd : Nat → Bool} {w : Int32} (hC : cr_CX mfA moA) (hf : f ≤ 3) (hp : ∀ a', (∀ i, i < 7305 → a' (cr_ix up i) = cr_b (cr_kq up w (cr_per f) cd i)) → post (nI n, nI s, nI f, nI t, ms, ds, ls, ws, o, p, nI c, nI e, mfA, moA, a', sd)) : ∀ (k j : Nat) (a : Nat → Int32), j + k = 7305 → (∀ i, i < j → a (cr_ix up i) = cr_b (cr_kq up w (cr_per f) cd i)) → (∀ i, j ≤ i → i < 7305 → a (cr_ix up i) = cr_b (cd (cr_ix up i))) → wX_keepOneOfEachPeriod_38 post (cr_b up) w (nI n) (nI s) (nI f) (nI t) ms ds ls ws o p (nI c) (nI e) (k + 1) (cr_cur (fun j => cr_per f (cr_ix up j)) j) (nI (cr_sn (fun j => cr_per f (cr_ix up j)) (fun j => cd (cr_ix up j)) j)) (nI j) mfA moA a sd := by
  intro k
  induction k with
  | zero =>
    intro j a hj h1 h2
    unfold wX_keepOneOfEachPeriod_38
    exact br_t (nI_le (a := 7305) (by omega) (by omega)) (hp a (fun i hi => h1 i (by omega)))
  | succ k ih =>
    intro j a hj h1 h2
    have hj' : j < 7305 := by omega
    rw [wX_keepOneOfEachPeriod_38]
    refine br_f (nI_ge (b := 7305) hj' (by decide)) ?_
    have step : wX_keepOneOfEachPeriod_61 post (wX_keepOneOfEachPeriod_38 post (cr_b up) w (nI n) (nI s) (nI f) (nI t) ms ds ls ws o p (nI c) (nI e) (k + 1)) (cr_b up) w (cr_cur (fun j => cr_per f (cr_ix up j)) j) (nI (cr_sn (fun j => cr_per f (cr_ix up j)) (fun j => cd (cr_ix up j)) j)) (nI j) (nI (cr_ix up j)) (nI n) (nI s) (nI f) (nI t) ms ds ls ws o p (nI c) (nI e) mfA moA a sd := by
      refine cr_xk61 hC hf hj' (cr_xk83 (b := cd (cr_ix up j)) (cr_ix_r up hj') (h2 j (Nat.le_refl _) hj') (fun a' g1 g2 => ?_))
      refine ih (j + 1) a' (by omega) (fun i hi => ?_) (fun i hi hi' => ?_)
      · by_cases z : i = j
        · rw [z]
          exact g1
        · rw [g2 _ (cr_ix_ne up (by omega) hj' z)]
          exact h1 i (by omega)
      · rw [g2 _ (cr_ix_ne up hi' hj' (by omega))]
        exact h2 i (by omega) hi'
    cases up
    · have e1 : (7304 : Int32) - nI j = nI (cr_ix false j) := pk_sub (a := 7304) (by omega)
      rw [e1]
      exact br_t rfl step
    · exact br_f (by decide) step
theorem cr_xkeep {cd : Nat → Bool} {a : Nat → Int32} (hC : cr_CX mfA moA) (hf : f ≤ 3) (h0 : ¬ p = 0) (ha : ∀ i, i < 7305 → a i = cr_b (cd i)) (hp : ∀ a', (∀ i, i < 7305 → a' i = cr_b (cr_kp (cr_per f) cd p i)) → post (nI n, nI s, nI f, nI t, ms, ds, ls, ws, o, p, nI c, nI e, mfA, moA, a', sd)) : wpX_keepOneOfEachPeriod post (nI n, nI s, nI f, nI t, ms, ds, ls, ws, o, p, nI c, nI e, mfA, moA, a, sd) := by
  unfold wpX_keepOneOfEachPeriod
  dsimp only
  unfold wX_keepOneOfEachPeriod_12
  unfold cr_kp at hp
  by_cases z : p ≤ 0
  · refine br_t z (br_t rfl (nm_e ⟨7305 + 1, ?_⟩))
    refine cr_xk38 (up := false) (cd := cd) hC hf (fun a' g => hp a' (fun i hi => ?_)) 7305 0 a rfl (fun i hi => absurd hi (by omega)) (fun i _ hi => ha _ (cr_ix_r false hi))
    rw [if_neg h0, if_pos z]
    have := g (cr_ix false i) (cr_ix_r false hi)
    rw [cr_ix_ix false hi] at this
    exact this
  · refine br_f z (br_f (by decide) ⟨7305 + 1, ?_⟩)
    refine cr_xk38 (up := true) (cd := cd) hC hf (fun a' g => hp a' (fun i hi => ?_)) 7305 0 a rfl (fun i hi => absurd hi (by omega)) (fun i _ hi => ha _ (cr_ix_r true hi))
    rw [if_neg h0, if_neg z]
    exact g i hi
theorem cr_xb2 (hC : cr_CX mfA moA) (hf : f ≤ 3) (hs : s < 7305) (ht : 1 ≤ t) (ht' : t ≤ 20) (hc : c ≤ 500) (he : e < 7305) (hp : ∀ a', (∀ i, i < 7305 → a' i = cr_b (cr_se s f t ms ds ls ws o p c e i)) → post (nI n, nI s, nI f, nI t, ms, ds, ls, ws, o, p, nI c, nI e, mfA, moA, a', sd)) : ∀ (k j : Nat) (a : Nat → Int32), j + k = 7305 → (∀ i, i < j → a i = cr_b (cr_cd s f t ms ds ls ws o i)) → wX_buildSeries_2 post (nI n) (nI s) (nI f) (nI t) ms ds ls ws o p (nI c) (nI e) (k + 1) (nI j) mfA moA a sd := by
  intro k
  induction k with
  | zero =>
    intro j a hj h1
    have h1' : ∀ i, i < 7305 → a i = cr_b (cr_cd s f t ms ds ls ws o i) := fun i hi => h1 i (by omega)
    rw [wX_buildSeries_2]
    refine br_t (nI_le (a := 7305) (by omega) (by omega)) ?_
    unfold wX_buildSeries_37
    by_cases z : p = 0
    · refine br_t z (cr_xcut (kp := cr_kp (cr_per f) (cr_cd s f t ms ds ls ws o) p) hs he hc (fun i hi => ?_) (fun a' g => hp a' g))
      unfold cr_kp
      rw [if_pos z]
      exact h1' i hi
    · exact br_f z (cr_xkeep (cd := cr_cd s f t ms ds ls ws o) hC hf z h1' (fun a' g => cr_xcut hs he hc g (fun a'' g' => hp a'' g')))
  | succ k ih =>
    intro j a hj h1
    have hj' : j < 7305 := by omega
    rw [wX_buildSeries_2]
    refine br_f (nI_ge (b := 7305) hj' (by decide)) (cr_xcd hC hf hs ht ht' hj' ⟨cr_in hj', ?_⟩)
    rw [cr_cl hj', cr_nz]
    refine nm_e (nm_r (nI_1 j) (ih (j + 1) _ (by omega) (fun i hi => ?_)))
    by_cases z : i = j
    · rw [z, pk_us]
    · rw [pk_un z]
      exact h1 i (by omega)
theorem cr_xbuild {ser : Nat → Int32} (hC : cr_CX mfA moA) (hf : f ≤ 3) (hs : s < 7305) (ht : 1 ≤ t) (ht' : t ≤ 20) (hc : c ≤ 500) (he : e < 7305) (hp : ∀ a', (∀ i, i < 7305 → a' i = cr_b (cr_se s f t ms ds ls ws o p c e i)) → post (nI n, nI s, nI f, nI t, ms, ds, ls, ws, o, p, nI c, nI e, mfA, moA, a', sd)) : wpX_buildSeries post (nI n, nI s, nI f, nI t, ms, ds, ls, ws, o, p, nI c, nI e, mfA, moA, ser, sd) := by
  unfold wpX_buildSeries
  dsimp only
  exact ⟨7305 + 1, cr_xb2 hC hf hs ht ht' hc he hp 7305 0 ser rfl (fun i hi => absurd hi (by omega))⟩
end
