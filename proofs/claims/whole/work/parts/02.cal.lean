/-! the calendar, in naturals -/
def cr_b (b : Bool) : Int32 := match b with
  | true => 1
  | false => 0
theorem cr_sel {b : Bool} {A B : Prop} (h0 : b = false → A) (h1 : b = true → B) : (cr_b b = 0 → A) ∧ (¬ cr_b b = 0 → B) := by
  cases b
  · exact br_t rfl (h0 rfl)
  · exact br_f (by decide) (h1 rfl)
theorem cr_b01 (b : Bool) : cr_b b = 0 ∨ cr_b b = 1 := by cases b; exact Or.inl rfl; exact Or.inr rfl
theorem cr_nz (b : Bool) : vp_nar .boolean (cr_b b) = cr_b b := by cases b <;> rfl
theorem cr_n0 : vp_nar .boolean 0 = cr_b false := rfl
theorem cr_n1 : vp_nar .boolean 1 = cr_b true := rfl
def cr_ml (i : Nat) : Nat := if i % 12 = 1 then (if i / 12 % 4 = 0 then 29 else 28) else if i % 12 = 3 ∨ i % 12 = 5 ∨ i % 12 = 8 ∨ i % 12 = 10 then 30 else 31
def cr_mf : Nat → Nat
  | 0 => 0
  | i + 1 => cr_mf i + cr_ml i
def cr_mo : Nat → Nat
  | 0 => 0
  | d + 1 => if d + 1 = cr_mf (cr_mo d + 1) then cr_mo d + 1 else cr_mo d
def cr_dt (d : Nat) : Nat := d - cr_mf (cr_mo d) + 1
def cr_fe (d : Nat) : Nat := cr_mf (cr_mo d + 1) - d
theorem cr_ml_r (i : Nat) : 28 ≤ cr_ml i ∧ cr_ml i ≤ 31 := by
  unfold cr_ml
  split
  · split <;> omega
  · split <;> omega
theorem cr_mf_s (i : Nat) : cr_mf (i + 1) = cr_mf i + cr_ml i := rfl
theorem cr_mo_s (d : Nat) : cr_mo (d + 1) = if d + 1 = cr_mf (cr_mo d + 1) then cr_mo d + 1 else cr_mo d := rfl
theorem cr_mo_in (d : Nat) : cr_mf (cr_mo d) ≤ d ∧ d < cr_mf (cr_mo d + 1) := by
  induction d with
  | zero => exact ⟨Nat.le_refl _, by decide⟩
  | succ d ih =>
    rw [cr_mo_s]
    split
    · rename_i h
      have := cr_ml_r (cr_mo d + 1)
      have := cr_mf_s (cr_mo d + 1)
      omega
    · omega
theorem cr_mono (a : Nat) : ∀ b : Nat, cr_mf a ≤ cr_mf (a + b) := by
  intro b
  induction b with
  | zero => exact Nat.le_refl _
  | succ b ih =>
    have := cr_mf_s (a + b)
    have e : a + (b + 1) = a + b + 1 := by omega
    rw [e]
    omega
theorem cr_mono' {a b : Nat} (h : a ≤ b) : cr_mf a ≤ cr_mf b := by
  have := cr_mono a (b - a)
  have e : a + (b - a) = b := by omega
  rwa [e] at this
theorem cr_mf_240 : cr_mf 240 = 7305 := by decide +kernel
theorem cr_mf_le {i : Nat} (h : i ≤ 240) : cr_mf i ≤ 7305 := by
  have := cr_mono' h
  rw [cr_mf_240] at this
  exact this
theorem cr_mo_lt {d : Nat} (h : d < 7305) : cr_mo d < 240 := by
  by_cases z : cr_mo d < 240
  · exact z
  · have h1 := cr_mono' (Nat.le_of_not_lt z)
    have h2 := (cr_mo_in d).1
    rw [cr_mf_240] at h1
    omega
theorem cr_uniq {m d : Nat} (h1 : cr_mf m ≤ d) (h2 : d < cr_mf (m + 1)) : cr_mo d = m := by
  have h3 := cr_mo_in d
  rcases Nat.lt_trichotomy (cr_mo d) m with h | h | h
  · have := cr_mono' (show cr_mo d + 1 ≤ m from h)
    omega
  · exact h
  · have := cr_mono' (show m + 1 ≤ cr_mo d from h)
    omega
theorem cr_fy : ∀ y, y < 21 → cr_mf (y * 12) = 365 * y + (y + 3) / 4 := by decide +kernel
theorem cr_dt_r (d : Nat) : 1 ≤ cr_dt d ∧ cr_dt d ≤ cr_ml (cr_mo d) ∧ cr_dt d ≤ 31 := by
  have h := cr_mo_in d
  have h1 := cr_mf_s (cr_mo d)
  have h2 := cr_ml_r (cr_mo d)
  unfold cr_dt
  omega
theorem cr_fe_r (d : Nat) : 1 ≤ cr_fe d ∧ cr_fe d ≤ 31 ∧ cr_fe d = cr_ml (cr_mo d) - cr_dt d + 1 := by
  have h := cr_mo_in d
  have h1 := cr_mf_s (cr_mo d)
  have h2 := cr_ml_r (cr_mo d)
  unfold cr_fe cr_dt
  omega
def cr_per (f d : Nat) : Nat := if f = 0 then d else if f = 1 then (d + 5) / 7 else if f = 2 then cr_mo d else cr_mo d / 12
theorem cr_per_r (f : Nat) {d : Nat} (h : d < 7305) : cr_per f d < 7305 := by
  have := cr_mo_lt h
  unfold cr_per
  split
  · exact h
  · split
    · omega
    · split <;> omega
def cr_CX (mfA moA : Nat → Int32) : Prop := (∀ i, i ≤ 240 → mfA i = nI (cr_mf i)) ∧ (∀ d, d < 7305 → moA d = nI (cr_mo d))
def cr_CY (ya mb dta : Nat → Int32) : Prop := ∀ d, d < 7305 → ya d = nI (cr_mo d / 12) ∧ mb d = nI (cr_mo d % 12 + 1) ∧ dta d = nI (cr_dt d)
theorem cr_cl {d : Nat} (h : d < 7305) : (nI d).toNatClampNeg = d := nI_clamp (by omega)
theorem cr_in {d : Nat} (h : d < 7305) : vp_in (nI d) 7305 := vp_in_nI h (by decide)
theorem cr_div12 {a : Nat} (h : a < 2 ^ 31) : nI a / 12 = nI (a / 12) := pk_div (d := 12) h (by decide) (by decide)
theorem cr_div7 {a : Nat} (h : a < 2 ^ 31) : nI a / 7 = nI (a / 7) := pk_div (d := 7) h (by decide) (by decide)
theorem cr_div4 {a : Nat} (h : a < 2 ^ 31) : nI a / 4 = nI (a / 4) := pk_div (d := 4) h (by decide) (by decide)
theorem cr_rem12 {a : Nat} (h : a < 2 ^ 31) : nI a - nI a / 12 * 12 = nI (a % 12) := pk_rem (d := 12) h (by decide) (by decide)
theorem cr_rem7 {a : Nat} (h : a < 2 ^ 31) : nI a - nI a / 7 * 7 = nI (a % 7) := pk_rem (d := 7) h (by decide) (by decide)
theorem cr_rem4 {a : Nat} (h : a < 2 ^ 31) : nI a - nI a / 4 * 4 = nI (a % 4) := pk_rem (d := 4) h (by decide) (by decide)
theorem cr_add5 (a : Nat) : nI a + 5 = nI (a + 5) := nI_add a 5
theorem cr_w7 {d : Nat} (h : d < 7305) : (nI d + 5) - (nI d + 5) / 7 * 7 = nI ((d + 5) % 7) := by
  rw [cr_add5, cr_rem7 (by omega)]
theorem cr_p7 {d : Nat} (h : d < 7305) : (nI d + 5) / 7 = nI ((d + 5) / 7) := by
  rw [cr_add5, cr_div7 (by omega)]
/-! bits -/
theorem cr_bt1 : ∀ i, i < 32 → bt 1 i = decide (i = 0) := by decide +kernel
theorem cr_a1 (y : Int32) : y &&& 1 = cr_b (bt y 0) := by
  apply b_ext
  intro i hi
  rw [b_and, cr_bt1 i hi]
  by_cases z : i = 0
  · subst z
    cases bt y 0 <;> decide
  · rw [decide_eq_false z, Bool.and_false]
    cases bt y 0
    · exact (b_0 i).symm
    · show false = bt 1 i
      rw [cr_bt1 i hi, decide_eq_false z]
theorem cr_ush (x : Int32) {k : Nat} (hk : k < 32) : (x.toUInt32 >>> ((nI k).toUInt32 &&& Int32.toUInt32 31)).toInt32 &&& 1 = cr_b (bt x k) := by
  rw [cr_a1, b_ushr k hk x 0]
  rfl
theorem cr_ssh (x : Int32) {k : Nat} (hk : k < 32) : (x >>> (nI k &&& 31)) &&& 1 = cr_b (bt x k) := by
  rw [cr_a1, b_sshr k hk x (by decide)]
  simp [hk]
theorem cr_hb {post : Int32 → Prop} (x : Int32) {k : Nat} (hk : k < 32) (h : post (cr_b (bt x k))) : wpX_hasBit post x (nI k) := by
  unfold wpX_hasBit
  rw [cr_ush x hk]
  cases hb : bt x k
  · rw [hb] at h
    exact br_f (by decide) h
  · rw [hb] at h
    exact br_t rfl h
theorem cr_or0 (x y : Int32) : (x ||| y) = 0 ↔ x = 0 ∧ y = 0 := by
  constructor
  · intro h
    constructor
    · apply b_ext
      intro i hi
      have := congrArg (fun z => bt z i) h
      simp only [b_or, b_0, Bool.or_eq_false_iff] at this
      rw [b_0]
      exact this.1
    · apply b_ext
      intro i hi
      have := congrArg (fun z => bt z i) h
      simp only [b_or, b_0, Bool.or_eq_false_iff] at this
      rw [b_0]
      exact this.2
  · rintro ⟨rfl, rfl⟩
    rfl
theorem cr_xml {post : Int32 → Prop} {i : Nat} (hi : i < 2 ^ 30) (h : post (nI (cr_ml i))) : wpX_monthLength post (nI i) := by
  unfold wpX_monthLength
  rw [cr_rem12 (by omega), nI_1, cr_div12 (by omega), cr_rem4 (by omega)]
  refine ⟨by decide, nm_e ?_⟩
  unfold cr_ml at h
  have h12 : i % 12 < 12 := Nat.mod_lt _ (by decide)
  generalize i % 12 = r at h h12
  rcases (by omega : r = 0 ∨ r = 1 ∨ r = 2 ∨ r = 3 ∨ r = 4 ∨ r = 5 ∨ r = 6 ∨ r = 7 ∨ r = 8 ∨ r = 9 ∨ r = 10 ∨ r = 11) with rfl | rfl | rfl | rfl | rfl | rfl | rfl | rfl | rfl | rfl | rfl | rfl
  · exact br_t (by decide) h
  · refine br_f (by decide) (br_f (by decide) (br_t (by decide) ⟨by decide, by decide, ?_⟩))
    by_cases z : i / 12 % 4 = 0
    · rw [if_pos rfl, if_pos z] at h
      rw [z]
      exact br_t rfl h
    · rw [if_pos rfl, if_neg z] at h
      exact br_f (nI_ne0 (by omega) (by omega)) h
  · exact br_f (by decide) (br_f (by decide) (br_f (by decide) (br_t (by decide) h)))
  · exact br_f (by decide) (br_f (by decide) (br_f (by decide) (br_f (by decide) (br_t (by decide) h))))
  · exact br_f (by decide) (br_f (by decide) (br_f (by decide) (br_f (by decide) (br_f (by decide) (br_t (by decide) h)))))
  · exact br_f (by decide) (br_f (by decide) (br_f (by decide) (br_f (by decide) (br_f (by decide) (br_f (by decide) (br_t (by decide) h))))))
  · exact br_f (by decide) (br_f (by decide) (br_f (by decide) (br_f (by decide) (br_f (by decide) (br_f (by decide) (br_f (by decide) (br_t (by decide) h)))))))
  · exact br_f (by decide) (br_f (by decide) (br_f (by decide) (br_f (by decide) (br_f (by decide) (br_f (by decide) (br_f (by decide) (br_f (by decide) (br_t (by decide) h))))))))
  · exact br_f (by decide) (br_f (by decide) (br_f (by decide) (br_f (by decide) (br_f (by decide) (br_f (by decide) (br_f (by decide) (br_f (by decide) (br_f (by decide) (br_t (by decide) h)))))))))
  · exact br_f (by decide) (br_f (by decide) (br_f (by decide) (br_f (by decide) (br_f (by decide) (br_f (by decide) (br_f (by decide) (br_f (by decide) (br_f (by decide) (br_f (by decide) (br_t (by decide) h))))))))))
  · exact br_f (by decide) (br_f (by decide) (br_f (by decide) (br_f (by decide) (br_f (by decide) (br_f (by decide) (br_f (by decide) (br_f (by decide) (br_f (by decide) (br_f (by decide) (br_f (by decide) (br_t (by decide) h)))))))))))
  · exact br_f (by decide) (br_t (by decide) h)
theorem cr_yle {post : Int32 → Prop} {v : SY} {i : Nat} (h : post (nI (cr_ml i))) (hi : i < 2 ^ 30) : wpY_length post v (nI (i / 12)) (nI (i % 12 + 1)) := by
  obtain ⟨s, f, t, ms, ds, ls, ws, o, p, c, e, n, kn, ya, mb, dta, ex, inc, ca, da⟩ := v
  unfold wpY_length
  dsimp only
  rw [cr_rem4 (by omega)]
  unfold cr_ml at h
  have h12 : i % 12 < 12 := Nat.mod_lt _ (by decide)
  generalize i % 12 = r at h h12
  rcases (by omega : r = 0 ∨ r = 1 ∨ r = 2 ∨ r = 3 ∨ r = 4 ∨ r = 5 ∨ r = 6 ∨ r = 7 ∨ r = 8 ∨ r = 9 ∨ r = 10 ∨ r = 11) with rfl | rfl | rfl | rfl | rfl | rfl | rfl | rfl | rfl | rfl | rfl | rfl
  · exact br_f (by decide) (br_f (by decide) (br_f (by decide) (br_f (by decide) (br_f (by decide) h))))
  · refine br_t (by decide) ⟨by decide, ?_⟩
    by_cases z : i / 12 % 4 = 0
    · rw [if_pos rfl, if_pos z] at h
      rw [z]
      exact br_t rfl h
    · rw [if_pos rfl, if_neg z] at h
      exact br_f (nI_ne0 (by omega) (by omega)) h
  · exact br_f (by decide) (br_f (by decide) (br_f (by decide) (br_f (by decide) (br_f (by decide) h))))
  · exact br_f (by decide) (br_t (by decide) h)
  · exact br_f (by decide) (br_f (by decide) (br_f (by decide) (br_f (by decide) (br_f (by decide) h))))
  · exact br_f (by decide) (br_f (by decide) (br_t (by decide) h))
  · exact br_f (by decide) (br_f (by decide) (br_f (by decide) (br_f (by decide) (br_f (by decide) h))))
  · exact br_f (by decide) (br_f (by decide) (br_f (by decide) (br_f (by decide) (br_f (by decide) h))))
  · exact br_f (by decide) (br_f (by decide) (br_f (by decide) (br_t (by decide) h)))
  · exact br_f (by decide) (br_f (by decide) (br_f (by decide) (br_f (by decide) (br_f (by decide) h))))
  · exact br_f (by decide) (br_f (by decide) (br_f (by decide) (br_f (by decide) (br_t (by decide) h))))
  · exact br_f (by decide) (br_f (by decide) (br_f (by decide) (br_f (by decide) (br_f (by decide) h))))
