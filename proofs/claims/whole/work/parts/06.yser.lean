/-! Y's walk to the same series and to the days of the rule -/
def cr_way (up : Bool) : Int32 := if up then -1 else 1
def cr_pos (up : Bool) : Nat → Int32
  | 0 => if up then -1 else 7305
  | j + 1 => nI (cr_ix up j)
theorem cr_wayj (up : Bool) {j : Nat} (hj : j < 7305) : nI (cr_ix up j) + cr_way up = cr_pos up j := by
  cases up
  · cases j with
    | zero => decide
    | succ j =>
      show nI (7304 - (j + 1)) + 1 = nI (7304 - j)
      rw [nI_1]
      exact congrArg nI (by omega)
  · cases j with
    | zero => decide
    | succ j => exact pk_m1 j
theorem cr_prp {p : Int32} (h0 : ¬ p ≤ 0) (h : p ≤ 10) : ∃ q, q < 10 ∧ p = nI (q + 1) := by
  obtain ⟨j, hj, e⟩ := nI_of2 (x := p) (M := 10) (n := 10) (by decide) (fun z => h0 (Int32.le_of_lt z)) h
  cases j with
  | zero => exact absurd (show p ≤ 0 by rw [e]; decide) h0
  | succ j => exact ⟨j, by omega, e⟩
theorem cr_prn {p : Int32} (h0 : ¬ p = 0) (h1 : p ≤ 0) (h : ¬ p < -10) : ∃ q, q < 10 ∧ -p = nI (q + 1) := by
  have a1 : p.toInt ≤ 0 := by
    have := Int32.le_iff_toInt_le.mp h1
    rwa [show (0 : Int32).toInt = 0 from by decide] at this
  have a2 : -10 ≤ p.toInt := by
    have h' : ¬ p.toInt < (-10 : Int32).toInt := fun z => h (Int32.lt_iff_toInt_lt.mpr z)
    rw [show (-10 : Int32).toInt = -10 from by decide] at h'
    omega
  have a3 : p.toInt ≠ 0 := fun z => h0 (Int32.toInt_inj.mp (z.trans (by decide)))
  have hy : (-p).toInt = -p.toInt := by
    rw [Int32.toInt_neg]
    exact Int.bmod_eq_of_le (by omega) (by omega)
  obtain ⟨j, hj, e⟩ := nI_of (x := -p) (by
    rw [Int32.lt_iff_toInt_lt, hy, show (0 : Int32).toInt = 0 from by decide]
    omega)
  have hz : (-p).toInt = (j : Int) := by rw [e]; exact nI_toInt hj
  cases j with
  | zero => omega
  | succ j => exact ⟨j, by omega, e⟩
def cr_EX (n : Nat) (ex inc sd : Nat → Int32) (g : Nat → Nat) (ib : Nat → Bool) : Prop := (∀ i, i < n → g i < 7305 ∧ ex i = nI (g i) ∧ inc i = cr_b (ib i) ∧ sd (g i) = (if ib i then 1 else 2)) ∧ (∀ i j, i < n → j < n → g i = g j → i = j) ∧ (∀ d, d < 7305 → (∀ i, i < n → g i ≠ d) → sd d = 0)
def cr_rl (sd : Nat → Int32) (sr : Nat → Bool) (d : Nat) : Bool := if sd d = 1 then true else if sd d = 0 then sr d else false
section
variable {n s f t c e d : Nat} {ms ds ls ws o p kn : Int32} {ya mb dta ex inc ca da : Nat → Int32} {post : Int32 → Prop} {cd : Nat → Bool}
theorem cr_y63 {m q : Nat} (hm : m < 2 ^ 30) (hq : q < 2 ^ 30) (h : post (cr_b (decide (m = q)))) : wY_has_63 post (nI q) (nI m) (nI s) (nI f) (nI t) ms ds ls ws o p (nI c) (nI e) (nI n) kn ya mb dta ex inc ca da := by
  unfold wY_has_63
  rw [nI_eq (by omega) (by omega)]
  exact cr_sb h
theorem cr_y15 {up : Bool} {P q : Nat} (hC : cr_CY ya mb dta) (hf : f ≤ 3) (hP : P < 7305) (hq : q < 2 ^ 20) (ha : ∀ i, i < 7305 → ca i = cr_b (cd i)) : ∀ (j m : Nat), j < 7305 → m + j < 2 ^ 20 → cr_per f (cr_ix up j) = P → post (cr_b (decide (m + cr_cu (fun j => cr_per f (cr_ix up j)) (fun j => cd (cr_ix up j)) j = q))) → wY_has_15 post (nI q) (cr_way up) (nI (P + cr_k f)) (nI s) (nI f) (nI t) ms ds ls ws o p (nI c) (nI e) (nI n) kn ya mb dta ex inc ca da (j + 1) (nI m) (cr_pos up j) := by
  intro j
  induction j with
  | zero =>
    intro m hj hm hper h
    rw [wY_has_15]
    refine cr_yis ?_ (br_t rfl (cr_y63 (by omega) (by omega) h))
    cases up
    · exact Or.inr (by decide)
    · exact Or.inl (by decide)
  | succ j ih =>
    intro m hj hm hper h
    have hj' : j < 7305 := by omega
    have hx := cr_ix_r up hj'
    have hr := cr_per_r f hx
    have hk : cr_k f ≤ 1 := by unfold cr_k; split <;> omega
    rw [wY_has_15]
    have e1 : cr_pos up (j + 1) = nI (cr_ix up j) := rfl
    rw [e1]
    rw [cr_cu_s] at h
    rw [hper] at h
    refine cr_yid hx (br_f (by decide) (cr_ypo hC hf hx (pk_eq (cr_per f (cr_ix up j) + cr_k f) (P + cr_k f) (fun g => ?_) (fun g => ?_))))
    · rw [if_pos (by omega)] at h
      refine pk_lt q m (fun g' => ?_) (fun g' => ⟨cr_in hx, ?_⟩)
      · refine cr_y63 (by omega) (by omega) ?_
        rw [decide_eq_false (by omega)] at h ⊢
        exact h
      · rw [cr_cl hx, ha _ hx]
        refine cr_sel (fun z => nm_r (cr_wayj up hj') (ih m hj' (by omega) (by omega) ?_)) (fun z => nm_r (nI_1 m) (nm_r (cr_wayj up hj') (ih (m + 1) hj' (by omega) (by omega) ?_)))
        · rw [z] at h
          exact h
        · rw [z] at h
          have e2 : m + 1 + cr_cu (fun j => cr_per f (cr_ix up j)) (fun j => cd (cr_ix up j)) j = m + (cr_cu (fun j => cr_per f (cr_ix up j)) (fun j => cd (cr_ix up j)) j + 1) := by omega
          rw [e2]
          exact h
    · rw [if_neg (by omega)] at h
      exact cr_y63 (by omega) (by omega) h
theorem cr_yhas {up : Bool} {q : Nat} (hC : cr_CY ya mb dta) (hf : f ≤ 3) (hd : d < 7305) (hq : q < 2 ^ 20) (ha : ∀ i, i < 7305 → ca i = cr_b (cd i)) (h : post (cr_b (decide (cr_cu (fun j => cr_per f (cr_ix up j)) (fun j => cd (cr_ix up j)) (cr_ix up d) = q)))) : wpY_has post (nI s, nI f, nI t, ms, ds, ls, ws, o, p, nI c, nI e, nI n, kn, ya, mb, dta, ex, inc, ca, da) (nI d) (nI q) (cr_way up) := by
  unfold wpY_has
  dsimp only
  have hx := cr_ix_r up hd
  have e1 := cr_ix_ix up hd
  refine cr_ypo hC hf hd (nm_r (e' := cr_pos up (cr_ix up d)) (by rw [← cr_wayj up hx, e1]) ⟨cr_ix up d + 1, ?_⟩)
  refine cr_y15 (P := cr_per f d) (m := 0) hC hf (cr_per_r f hd) hq ha (cr_ix up d) hx (by omega) (by rw [e1]) ?_
  rw [Nat.zero_add]
  exact h
theorem cr_nb (b : Bool) : narrow .boolean (.int (cr_b b)) = .int (cr_b b) := by cases b <;> rfl
theorem cr_yst (hC : cr_CY ya mb dta) (hf : f ≤ 3) (hs : s < 7305) (he : e < 7305) (hd : d < 7305) (hp1 : ¬ p < -10) (hp2 : p ≤ 10) (ha : ∀ i, i < 7305 → ca i = cr_b (cd i)) (h : post (cr_b (cr_ste s e (cr_kp (cr_per f) cd p) d))) : wpY_stays post (nI s, nI f, nI t, ms, ds, ls, ws, o, p, nI c, nI e, nI n, kn, ya, mb, dta, ex, inc, ca, da) (nI d) := by
  unfold wpY_stays
  dsimp only
  unfold cr_ste cr_kp cr_kq at h
  rw [cr_ix_ix false hd] at h
  rw [cr_cl hd, ha d hd]
  have kz : ∀ B : Bool, (if p = 0 then cd d else if p ≤ 0 then cd d && B else cr_kq true p (cr_per f) cd d) = (cd d && (if p = 0 then true else if p ≤ 0 then B else decide (nI (cr_cu (fun j => cr_per f (cr_ix true j)) (fun j => cd (cr_ix true j)) d + 1) = p))) := by
    intro B
    by_cases z : p = 0
    · rw [if_pos z, if_pos z, Bool.and_true]
    · rw [if_neg z, if_neg z]
      by_cases z' : p ≤ 0
      · rw [if_pos z', if_pos z']
      · rw [if_neg z', if_neg z']
        rfl
  have kz' := kz (decide (nI (cr_cu (fun j => cr_per f (cr_ix false j)) (fun j => cd (cr_ix false j)) (cr_ix false d) + 1) = -p))
  unfold cr_kq at kz'
  rw [kz'] at h
  refine ⟨cr_in hd, cr_sel (fun z => ?_) (fun z => ?_)⟩
  · rw [z] at h
    exact h
  · rw [z, Bool.true_and] at h
    refine pk_lt d s (fun g => ?_) (fun g => pk_le d e (fun g' => ?_) (fun g' => ?_))
    · rw [decide_eq_false (show ¬ s ≤ d by omega), Bool.false_and, Bool.and_false] at h
      exact h
    · rw [decide_eq_true g, decide_eq_true g', Bool.and_true, Bool.and_true] at h
      by_cases z1 : p = 0
      · rw [if_pos z1] at h
        exact br_t z1 h
      · rw [if_neg z1] at h
        refine br_f z1 ?_
        by_cases z2 : p ≤ 0
        · rw [if_pos z2] at h
          obtain ⟨q, hq, e1⟩ := cr_prn z1 z2 hp1
          have hb := cr_cu_r (fun j => cr_per f (cr_ix false j)) (fun j => cd (cr_ix false j)) (cr_ix false d)
          have hx := cr_ix_r false hd
          have e2 : -p - 1 = nI q := by rw [e1]; exact nI_pred q
          rw [e2]
          refine br_t z2 (cr_yhas (up := false) hC hf hd (by omega) ha ⟨cr_nb _, ?_⟩)
          rw [e1] at h
          have e3 : (nI (cr_cu (fun j => cr_per f (cr_ix false j)) (fun j => cd (cr_ix false j)) (cr_ix false d) + 1) = nI (q + 1)) ↔ cr_cu (fun j => cr_per f (cr_ix false j)) (fun j => cd (cr_ix false j)) (cr_ix false d) = q := by
            rw [nI_eq (by omega) (by omega)]
            omega
          rw [decide_eq_decide.mpr e3] at h
          exact h
        · rw [if_neg z2] at h
          obtain ⟨q, hq, e1⟩ := cr_prp z2 hp2
          have hb := cr_cu_r (fun j => cr_per f (cr_ix true j)) (fun j => cd (cr_ix true j)) (cr_ix true d)
          have hx := cr_ix_r true hd
          have e2 : p - 1 = nI q := by rw [e1]; exact nI_pred q
          rw [e2]
          refine br_f z2 (cr_yhas (up := true) hC hf hd (by omega) ha ⟨cr_nb _, ?_⟩)
          have e3 : (nI (cr_cu (fun j => cr_per f (cr_ix true j)) (fun j => cd (cr_ix true j)) d + 1) = p) ↔ cr_cu (fun j => cr_per f (cr_ix true j)) (fun j => cd (cr_ix true j)) (cr_ix true d) = q := by
            rw [e1]
            have e4 : cr_ix true d = d := rfl
            rw [e4] at hb ⊢
            rw [nI_eq (by omega) (by omega)]
            omega
          rw [decide_eq_decide.mpr e3] at h
          exact h
    · rw [decide_eq_false (show ¬ d ≤ e by omega), Bool.and_false, Bool.and_false] at h
      exact h
end
section
variable {n s f t c e : Nat} {ms ds ls ws o p kn : Int32} {ya mb dta ex inc ca sd : Nat → Int32} {post : SY → Prop}
theorem cr_y104 {g : Nat → Nat} {ib : Nat → Bool} {sr : Nat → Bool} (hn : n ≤ 12) (hE : cr_EX n ex inc sd g ib) (hp : ∀ a', (∀ i, i < 7305 → a' i = cr_b (cr_rl sd sr i)) → post (nI s, nI f, nI t, ms, ds, ls, ws, o, p, nI c, nI e, nI n, kn, ya, mb, dta, ex, inc, ca, a')) : ∀ (k j : Nat) (a : Nat → Int32), j + k = n → (∀ i, i < j → a (g i) = cr_b (ib i)) → (∀ d, d < 7305 → (∀ i, i < j → g i ≠ d) → a d = cr_b (sr d)) → wY_work_104 post (nI s) (nI f) (nI t) ms ds ls ws o p (nI c) (nI e) (nI n) kn (k + 1) (nI j) ya mb dta ex inc ca a := by
  intro k
  induction k with
  | zero =>
    intro j a hj h1 h2
    have hjn : j = n := by omega
    subst hjn
    rw [wY_work_104]
    refine br_t (nI_le (Nat.le_refl _) (by omega)) (hp a (fun d hd => ?_))
    by_cases z : ∃ i, i < j ∧ g i = d
    · obtain ⟨i, hi, rfl⟩ := z
      rw [h1 i hi]
      have := (hE.1 i hi).2.2.2
      unfold cr_rl
      rw [this]
      cases ib i <;> rfl
    · have z' : ∀ i, i < j → g i ≠ d := fun i hi w => z ⟨i, hi, w⟩
      rw [h2 d hd z']
      unfold cr_rl
      rw [hE.2.2 d hd z']
      rfl
  | succ k ih =>
    intro j a hj h1 h2
    have hj' : j < n := by omega
    obtain ⟨q1, q2, q3, q4⟩ := hE.1 j hj'
    rw [wY_work_104]
    dsimp only
    rw [nI_clamp (n := j) (by omega), q2, q3, cr_cl q1, cr_nz]
    refine br_f (nI_ge hj' (by omega)) ⟨vp_in_nI (by omega) (by decide), vp_in_nI (by omega) (by decide), cr_in q1, nm_e (nm_r (nI_1 j) (ih (j + 1) _ (by omega) (fun i hi => ?_) (fun d hd hi => ?_)))⟩
    · by_cases z : i = j
      · rw [z, pk_us]
      · rw [pk_un (fun w => z (hE.2.1 i j (by omega) hj' w))]
        exact h1 i (by omega)
    · rw [pk_un (fun w => hi j (by omega) w.symm)]
      exact h2 d hd (fun i hi' => hi i (by omega))
theorem cr_y83 {J : Int32 → Int32 → (Nat → Int32) → (Nat → Int32) → (Nat → Int32) → (Nat → Int32) → (Nat → Int32) → (Nat → Int32) → (Nat → Int32) → Prop} {a : Nat → Int32} {k j : Nat} {v : Bool} (hj : j < 7305) (h : J (nI (k + (if v then 1 else 0))) (nI (j + 1)) ya mb dta ex inc ca (upd a j (cr_b v))) : wY_work_83 post J (nI k) (nI j) (cr_b v) (nI j) (nI s) (nI f) (nI t) ms ds ls ws o p (nI c) (nI e) (nI n) kn ya mb dta ex inc ca a := by
  unfold wY_work_83
  rw [cr_cl hj, cr_nz]
  refine ⟨cr_in hj, nm_e ⟨cr_in hj, ?_⟩⟩
  rw [pk_us]
  cases v
  · exact br_t rfl (nm_r (nI_1 j) h)
  · exact br_f (by decide) (nm_r (nI_1 k) (nm_r (nI_1 j) h))
theorem cr_y43 {g : Nat → Nat} {ib : Nat → Bool} {cd : Nat → Bool} (hC : cr_CY ya mb dta) (hf : f ≤ 3) (hs : s < 7305) (he : e < 7305) (hc : c ≤ 500) (hp1 : ¬ p < -10) (hp2 : p ≤ 10) (ha : ∀ i, i < 7305 → ca i = cr_b (cd i)) (hn : n ≤ 12) (hE : cr_EX n ex inc sd g ib) (hp : ∀ a', (∀ i, i < 7305 → a' i = cr_b (cr_rl sd (cr_sr c (cr_ste s e (cr_kp (cr_per f) cd p))) i)) → post (nI s, nI f, nI t, ms, ds, ls, ws, o, p, nI c, nI e, nI n, kn, ya, mb, dta, ex, inc, ca, a')) : ∀ (k j : Nat) (a : Nat → Int32), j + k = 7305 → (∀ i, i < j → a i = cr_b (cr_sr c (cr_ste s e (cr_kp (cr_per f) cd p)) i)) → wY_work_43 post (nI s) (nI f) (nI t) ms ds ls ws o p (nI c) (nI e) (nI n) kn (k + 1) (nI (cr_tk c (cr_ste s e (cr_kp (cr_per f) cd p)) j)) (nI j) ya mb dta ex inc ca a := by
  intro k
  induction k with
  | zero =>
    intro j a hj h1
    rw [wY_work_43]
    refine br_t (nI_le (a := 7305) (by omega) (by omega)) ⟨n + 1, ?_⟩
    exact cr_y104 hn hE hp n 0 a (by omega) (fun i hi => absurd hi (by omega)) (fun d hd _ => h1 d (by omega))
  | succ k ih =>
    intro j a hj h1
    have hj' : j < 7305 := by omega
    have ht := cr_tk_r c (cr_ste s e (cr_kp (cr_per f) cd p)) j
    rw [wY_work_43]
    refine br_f (nI_ge (b := 7305) hj' (by decide)) ?_
    have next : ∀ v : Bool, v = cr_sr c (cr_ste s e (cr_kp (cr_per f) cd p)) j → wY_work_83 post (wY_work_43 post (nI s) (nI f) (nI t) ms ds ls ws o p (nI c) (nI e) (nI n) kn (k + 1)) (nI (cr_tk c (cr_ste s e (cr_kp (cr_per f) cd p)) j)) (nI j) (cr_b v) (nI j) (nI s) (nI f) (nI t) ms ds ls ws o p (nI c) (nI e) (nI n) kn ya mb dta ex inc ca a := by
      intro v hv
      refine cr_y83 hj' ?_
      rw [hv, ← cr_tk_s]
      refine ih (j + 1) _ (by omega) (fun i hi => ?_)
      by_cases z : i = j
      · rw [z, pk_us]
      · rw [pk_un z]
        exact h1 i (by omega)
    have full : decide (c = 0) = true ∨ decide (cr_tk c (cr_ste s e (cr_kp (cr_per f) cd p)) j < c) = true → wY_work_70 post (wY_work_43 post (nI s) (nI f) (nI t) ms ds ls ws o p (nI c) (nI e) (nI n) kn (k + 1)) (nI (cr_tk c (cr_ste s e (cr_kp (cr_per f) cd p)) j)) (nI j) (nI j) (nI s) (nI f) (nI t) ms ds ls ws o p (nI c) (nI e) (nI n) kn ya mb dta ex inc ca a := by
      intro hr
      have hv : cr_sr c (cr_ste s e (cr_kp (cr_per f) cd p)) j = cr_ste s e (cr_kp (cr_per f) cd p) j := by
        unfold cr_sr
        rcases hr with hr | hr
        · rw [hr, Bool.true_or, Bool.true_and]
        · rw [hr, Bool.or_true, Bool.true_and]
      unfold wY_work_70
      refine cr_yst hC hf hs he hj' hp1 hp2 ha (cr_sel (fun z => ?_) (fun z => ?_))
      · unfold wY_work_82
        exact next false (by rw [hv, z])
      · exact next true (by rw [hv, z])
    by_cases z : c = 0
    · exact br_t (by rw [z]; rfl) (full (Or.inl (decide_eq_true z)))
    · refine br_f (nI_ne0 (by omega) (by omega)) (pk_le c (cr_tk c (cr_ste s e (cr_kp (cr_per f) cd p)) j) (fun g => ?_) (fun g => ?_))
      · unfold wY_work_82
        refine next false ?_
        unfold cr_sr
        rw [decide_eq_false z, decide_eq_false (by omega)]
        rfl
      · exact full (Or.inr (decide_eq_true g))
end
section
variable {n s f t c e : Nat} {ms ds ls ws o p kn : Int32} {ya mb dta ex inc da sd : Nat → Int32} {post : SY → Prop}
theorem cr_y17 {g : Nat → Nat} {ib : Nat → Bool} (hC : cr_CY ya mb dta) (hf : f ≤ 3) (hs : s < 7305) (ht : 1 ≤ t) (ht' : t ≤ 20) (he : e < 7305) (hc : c ≤ 500) (hp1 : ¬ p < -10) (hp2 : p ≤ 10) (hn : n ≤ 12) (hE : cr_EX n ex inc sd g ib) (hp : ∀ b' a', (∀ i, i < 7305 → a' i = cr_b (cr_rl sd (cr_se s f t ms ds ls ws o p c e) i)) → post (nI s, nI f, nI t, ms, ds, ls, ws, o, p, nI c, nI e, nI n, kn, ya, mb, dta, ex, inc, b', a')) : ∀ (k j : Nat) (a : Nat → Int32), j + k = 7305 → (∀ i, i < j → a i = cr_b (cr_cd s f t ms ds ls ws o i)) → wY_work_17 post 0 (nI s) (nI f) (nI t) ms ds ls ws o p (nI c) (nI e) (nI n) kn (k + 1) (nI j) ya mb dta ex inc a da := by
  intro k
  induction k with
  | zero =>
    intro j a hj h1
    rw [wY_work_17]
    refine br_t (nI_le (a := 7305) (by omega) (by omega)) ⟨7305 + 1, ?_⟩
    exact cr_y43 (cd := cr_cd s f t ms ds ls ws o) hC hf hs he hc hp1 hp2 (fun i hi => h1 i (by omega)) hn hE (hp a) 7305 0 da rfl (fun i hi => absurd hi (by omega))
  | succ k ih =>
    intro j a hj h1
    have hj' : j < 7305 := by omega
    rw [wY_work_17]
    refine br_f (nI_ge (b := 7305) hj' (by decide)) (cr_ycd hC hf hs ht ht' hj' ⟨cr_in hj', ?_⟩)
    rw [cr_cl hj', cr_nz]
    refine nm_e (nm_r (nI_1 j) (ih (j + 1) _ (by omega) (fun i hi => ?_)))
    by_cases z : i = j
    · rw [z, pk_us]
    · rw [pk_un z]
      exact h1 i (by omega)
theorem cr_ywork {ca : Nat → Int32} {g : Nat → Nat} {ib : Nat → Bool} (hC : cr_CY ya mb dta) (hf : f ≤ 3) (hs : s < 7305) (ht : 1 ≤ t) (ht' : t ≤ 20) (he : e < 7305) (hc : c ≤ 500) (hp1 : ¬ p < -10) (hp2 : p ≤ 10) (hn : n ≤ 12) (hE : cr_EX n ex inc sd g ib) (hk : ¬ kn = 0 → ∀ i, i < 7305 → da i = cr_b (cr_rl sd (cr_se s f t ms ds ls ws o p c e) i)) (hp : ∀ k' b' a', ¬ k' = 0 → (∀ i, i < 7305 → a' i = cr_b (cr_rl sd (cr_se s f t ms ds ls ws o p c e) i)) → post (nI s, nI f, nI t, ms, ds, ls, ws, o, p, nI c, nI e, nI n, k', ya, mb, dta, ex, inc, b', a')) : wpY_work post (nI s, nI f, nI t, ms, ds, ls, ws, o, p, nI c, nI e, nI n, kn, ya, mb, dta, ex, inc, ca, da) := by
  unfold wpY_work
  dsimp only
  by_cases z : kn = 0
  · exact br_t z ⟨7305 + 1, cr_y17 hC hf hs ht ht' he hc hp1 hp2 hn hE (fun b' a' h => hp 1 b' a' (by decide) h) 7305 0 ca rfl (fun i hi => absurd hi (by omega))⟩
  · exact br_f z (hp kn ca da z (hk z))
end
