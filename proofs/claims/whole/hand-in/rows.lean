section
theorem pk_us {f : Nat → Int32} {k : Nat} {x : Int32} : upd f k x k = x := if_pos rfl
theorem pk_un {f : Nat → Int32} {k j : Nat} {x : Int32} (h : j ≠ k) : upd f k x j = f j := if_neg h
theorem pk_sub {a b : Nat} (h : b ≤ a) : nI a - nI b = nI (a - b) := by
  obtain ⟨c, rfl⟩ : ∃ c, a = c + b := ⟨a - b, by omega⟩
  rw [← nI_add, Int32.add_sub_cancel, Nat.add_sub_cancel]
theorem pk_m1 (n : Nat) : nI (n + 1) + (-1) = nI n := by
  rw [← nI_1, Int32.add_assoc, show (1 : Int32) + (-1) = 0 from rfl, Int32.add_zero]
theorem pk_mul (a b : Nat) : nI a * nI b = nI (a * b) := (Int32.ofNat_mul a b).symm
theorem pk_div {a d : Nat} (ha : a < 2 ^ 31) (h0 : 0 < d) (hd : d < 2 ^ 31) : nI a / nI d = nI (a / d) := by
  apply Int32.toInt_inj.mp
  rw [lg_idiv_nonneg (by rw [nI_toInt ha]; omega) (by rw [nI_toInt hd]; omega), nI_toInt ha, nI_toInt hd, nI_toInt (Nat.lt_of_le_of_lt (Nat.div_le_self a d) ha)]
  first | rfl | exact (Int.natCast_ediv _ _).symm
theorem pk_rem {a d : Nat} (ha : a < 2 ^ 31) (h0 : 0 < d) (hd : d < 2 ^ 31) : nI a - nI a / nI d * nI d = nI (a % d) := by
  rw [pk_div ha h0 hd, pk_mul, pk_sub (Nat.div_mul_le_self a d)]
  exact congrArg nI (by have := Nat.div_add_mod' a d; omega)
theorem pk_sub_toInt {a b : Nat} (ha : a < 2 ^ 30) (hb : b < 2 ^ 30) : (nI a - nI b).toInt = (a : Int) - b := by
  rw [Int32.toInt_sub, nI_toInt (by omega), nI_toInt (by omega)]
  exact Int.bmod_eq_of_le (by omega) (by omega)
theorem pk_sneg {a b : Nat} (hb : b < 2 ^ 30) (h : a < b) : nI a - nI b < 0 := by
  rw [Int32.lt_iff_toInt_lt, pk_sub_toInt (by omega) hb, show (0 : Int32).toInt = 0 from by decide]
  omega
theorem pk_ix (x : Int32) {n : Nat} (hn : n < 2 ^ 31) : x < 0 ∨ nI n ≤ x ∨ ∃ j : Nat, j < n ∧ x = nI j := by
  by_cases h : x < 0
  · exact Or.inl h
  · obtain ⟨j, hj, rfl⟩ := nI_of h
    by_cases h2 : j < n
    · exact Or.inr (Or.inr ⟨j, h2, rfl⟩)
    · exact Or.inr (Or.inl (nI_le (by omega) hj))
theorem pk_le {x y : Int32} {A B : Prop} (a b : Nat) (f : a ≤ b → A) (g : b < a → B) (hx : x = nI a := by rfl) (hy : y = nI b := by rfl) (ha : a < 2 ^ 31 := by omega) (hb : b < 2 ^ 31 := by omega) : (x ≤ y → A) ∧ (¬ x ≤ y → B) := by
  subst hx hy
  rw [nI_leI ha hb]
  exact ⟨f, fun z => g (by omega)⟩
theorem pk_lt {x y : Int32} {A B : Prop} (a b : Nat) (f : a < b → A) (g : b ≤ a → B) (hx : x = nI a := by rfl) (hy : y = nI b := by rfl) (ha : a < 2 ^ 31 := by omega) (hb : b < 2 ^ 31 := by omega) : (x < y → A) ∧ (¬ x < y → B) := by
  subst hx hy
  rw [nI_ltI ha hb]
  exact ⟨f, fun z => g (by omega)⟩
theorem pk_eq {x y : Int32} {A B : Prop} (a b : Nat) (f : a = b → A) (g : a ≠ b → B) (hx : x = nI a := by rfl) (hy : y = nI b := by rfl) (ha : a < 2 ^ 31 := by omega) (hb : b < 2 ^ 31 := by omega) : (x = y → A) ∧ (¬ x = y → B) := by
  subst hx hy
  rw [nI_eq ha hb]
  exact ⟨f, g⟩
theorem pk_in {x : Int32} (n N : Nat) (h : n < N) (hx : x = nI n := by rfl) (hN : N < 2 ^ 31 := by omega) : vp_in x N := by
  subst hx
  exact vp_in_nI h hN
theorem pk_cl {x : Int32} (n : Nat) (hx : x = nI n := by rfl) (h : n < 2 ^ 31 := by omega) : x.toNatClampNeg = n := by
  subst hx
  exact nI_clamp h
theorem sb_negT {w : Nat} (h : w < 2 ^ 31) : (-nI w).toInt = -(w : Int) := by
  rw [Int32.toInt_neg, nI_toInt h]
  exact Int.bmod_eq_of_le (by omega) (by omega)
def bt (x : Int32) (i : Nat) : Bool := x.toBitVec.getLsbD i
theorem b_ext {x y : Int32} (h : ∀ i, i < 32 → bt x i = bt y i) : x = y := Int32.toBitVec_inj.mp (BitVec.eq_of_getLsbD_eq (fun i hi => h i hi))
theorem b_or (x y : Int32) (i : Nat) : bt (x ||| y) i = (bt x i || bt y i) := by unfold bt; rw [Int32.toBitVec_or, BitVec.getLsbD_or]
theorem b_and (x y : Int32) (i : Nat) : bt (x &&& y) i = (bt x i && bt y i) := by unfold bt; rw [Int32.toBitVec_and, BitVec.getLsbD_and]
theorem b_xor (x y : Int32) (i : Nat) : bt (x ^^^ y) i = (bt x i ^^ bt y i) := by unfold bt; rw [Int32.toBitVec_xor, BitVec.getLsbD_xor]
theorem b_big {x : Int32} {i : Nat} (h : 32 ≤ i) : bt x i = false := BitVec.getLsbD_of_ge _ _ h
theorem b_255 (i : Nat) : bt 255 i = decide (i < 8) := by
  rcases Nat.lt_or_ge i 32 with h | h
  · exact (by decide +kernel : ∀ i, i < 32 → bt 255 i = decide (i < 8)) i h
  · rw [b_big h, decide_eq_false (by omega)]
theorem b_65535 (i : Nat) : bt 65535 i = decide (i < 16) := by
  rcases Nat.lt_or_ge i 32 with h | h
  · exact (by decide +kernel : ∀ i, i < 32 → bt 65535 i = decide (i < 16)) i h
  · rw [b_big h, decide_eq_false (by omega)]
theorem b_m1 : ∀ i, i < 32 → bt (-1) i = true := by decide +kernel
theorem b_0 (i : Nat) : bt 0 i = false := BitVec.getLsbD_zero
theorem s_l : ∀ n, n < 32 → ((nI n &&& 31).toBitVec.smod 32).toNat = n := by decide +kernel
theorem s_u : ∀ n, n < 32 → (((nI n).toUInt32 &&& Int32.toUInt32 31).toBitVec % 32).toNat = n := by decide +kernel
theorem b_shl (n : Nat) (hn : n < 32) (x : Int32) {i : Nat} (hi : i < 32) : bt (x <<< (nI n &&& 31)) i = (decide (n ≤ i) && bt x (i - n)) := by
  unfold bt
  rw [Int32.toBitVec_shiftLeft]
  show (x.toBitVec <<< ((nI n &&& 31).toBitVec.smod 32).toNat).getLsbD i = _
  rw [s_l n hn, BitVec.getLsbD_shiftLeft]
  rcases Nat.lt_or_ge i n with h | h
  · simp [h, Nat.not_le.mpr h]
  · simp [hi, h, Nat.not_lt.mpr h]
theorem b_ushr (n : Nat) (hn : n < 32) (x : Int32) (i : Nat) : bt ((x.toUInt32 >>> ((nI n).toUInt32 &&& Int32.toUInt32 31)).toInt32) i = bt x (n + i) := by
  show (x.toUInt32 >>> ((nI n).toUInt32 &&& Int32.toUInt32 31)).toBitVec.getLsbD i = x.toUInt32.toBitVec.getLsbD (n + i)
  rw [UInt32.toBitVec_shiftRight]
  show (x.toUInt32.toBitVec >>> (((nI n).toUInt32 &&& Int32.toUInt32 31).toBitVec % 32).toNat).getLsbD i = _
  rw [s_u n hn, BitVec.getLsbD_ushiftRight]
theorem b_sshr (n : Nat) (hn : n < 32) (x : Int32) {i : Nat} (hi : i < 32) : bt (x >>> (nI n &&& 31)) i = if n + i < 32 then bt x (n + i) else bt x 31 := by
  unfold bt
  rw [Int32.toBitVec_shiftRight]
  show (x.toBitVec.sshiftRight ((nI n &&& 31).toBitVec.smod 32).toNat).getLsbD i = _
  rw [s_l n hn, BitVec.getLsbD_sshiftRight, BitVec.msb_eq_getLsbD_last]
  simp [hi]
theorem b_shl8 (x : Int32) {i : Nat} (hi : i < 32) : bt (x <<< ((8 : Int32) &&& 31)) i = (decide (8 ≤ i) && bt x (i - 8)) := b_shl 8 (by omega) x hi
theorem b_shl16 (x : Int32) {i : Nat} (hi : i < 32) : bt (x <<< ((16 : Int32) &&& 31)) i = (decide (16 ≤ i) && bt x (i - 16)) := b_shl 16 (by omega) x hi
theorem b_shl24 (x : Int32) {i : Nat} (hi : i < 32) : bt (x <<< ((24 : Int32) &&& 31)) i = (decide (24 ≤ i) && bt x (i - 24)) := b_shl 24 (by omega) x hi
theorem b_sshr8 (x : Int32) {i : Nat} (hi : i < 32) : bt (x >>> ((8 : Int32) &&& 31)) i = if 8 + i < 32 then bt x (8 + i) else bt x 31 := b_sshr 8 (by omega) x hi
end
section
/-! the calendar, in naturals -/
def cr_b (b : Bool) : Int32 := match b with
  | true => 1
  | false => 0
theorem cr_sel {b : Bool} {A B : Prop} (h0 : b = false → A) (h1 : b = true → B) : (cr_b b = 0 → A) ∧ (¬ cr_b b = 0 → B) := by
  cases b
  · exact br_t rfl (h0 rfl)
  · exact br_f (by decide) (h1 rfl)
theorem cr_b01 (b : Bool) : cr_b b = 0 ∨ cr_b b = 1 := by cases b; exact Or.inl rfl; exact Or.inr rfl
theorem cr_nz (b : Bool) : vp_nar .boolean (cr_b b) = cr_b b := by cases b <;> rfl
theorem cr_n0 : vp_nar .boolean 0 = cr_b false := rfl
theorem cr_n1 : vp_nar .boolean 1 = cr_b true := rfl
def cr_ml (i : Nat) : Nat := if i % 12 = 1 then (if i / 12 % 4 = 0 then 29 else 28) else if i % 12 = 3 ∨ i % 12 = 5 ∨ i % 12 = 8 ∨ i % 12 = 10 then 30 else 31
def cr_mf : Nat → Nat
  | 0 => 0
  | i + 1 => cr_mf i + cr_ml i
def cr_mo : Nat → Nat
  | 0 => 0
  | d + 1 => if d + 1 = cr_mf (cr_mo d + 1) then cr_mo d + 1 else cr_mo d
def cr_dt (d : Nat) : Nat := d - cr_mf (cr_mo d) + 1
def cr_fe (d : Nat) : Nat := cr_mf (cr_mo d + 1) - d
theorem cr_ml_r (i : Nat) : 28 ≤ cr_ml i ∧ cr_ml i ≤ 31 := by
  unfold cr_ml
  split
  · split <;> omega
  · split <;> omega
theorem cr_mf_s (i : Nat) : cr_mf (i + 1) = cr_mf i + cr_ml i := rfl
theorem cr_mo_s (d : Nat) : cr_mo (d + 1) = if d + 1 = cr_mf (cr_mo d + 1) then cr_mo d + 1 else cr_mo d := rfl
theorem cr_mo_in (d : Nat) : cr_mf (cr_mo d) ≤ d ∧ d < cr_mf (cr_mo d + 1) := by
  induction d with
  | zero => exact ⟨Nat.le_refl _, by decide⟩
  | succ d ih =>
    rw [cr_mo_s]
    split
    · rename_i h
      have := cr_ml_r (cr_mo d + 1)
      have := cr_mf_s (cr_mo d + 1)
      omega
    · omega
theorem cr_mono (a : Nat) : ∀ b : Nat, cr_mf a ≤ cr_mf (a + b) := by
  intro b
  induction b with
  | zero => exact Nat.le_refl _
  | succ b ih =>
    have := cr_mf_s (a + b)
    have e : a + (b + 1) = a + b + 1 := by omega
    rw [e]
    omega
theorem cr_mono' {a b : Nat} (h : a ≤ b) : cr_mf a ≤ cr_mf b := by
  have := cr_mono a (b - a)
  have e : a + (b - a) = b := by omega
  rwa [e] at this
theorem cr_mf_240 : cr_mf 240 = 7305 := by decide +kernel
theorem cr_mf_le {i : Nat} (h : i ≤ 240) : cr_mf i ≤ 7305 := by
  have := cr_mono' h
  rw [cr_mf_240] at this
  exact this
theorem cr_mo_lt {d : Nat} (h : d < 7305) : cr_mo d < 240 := by
  by_cases z : cr_mo d < 240
  · exact z
  · have h1 := cr_mono' (Nat.le_of_not_lt z)
    have h2 := (cr_mo_in d).1
    rw [cr_mf_240] at h1
    omega
theorem cr_uniq {m d : Nat} (h1 : cr_mf m ≤ d) (h2 : d < cr_mf (m + 1)) : cr_mo d = m := by
  have h3 := cr_mo_in d
  rcases Nat.lt_trichotomy (cr_mo d) m with h | h | h
  · have := cr_mono' (show cr_mo d + 1 ≤ m from h)
    omega
  · exact h
  · have := cr_mono' (show m + 1 ≤ cr_mo d from h)
    omega
theorem cr_fy : ∀ y, y < 21 → cr_mf (y * 12) = 365 * y + (y + 3) / 4 := by decide +kernel
theorem cr_dt_r (d : Nat) : 1 ≤ cr_dt d ∧ cr_dt d ≤ cr_ml (cr_mo d) ∧ cr_dt d ≤ 31 := by
  have h := cr_mo_in d
  have h1 := cr_mf_s (cr_mo d)
  have h2 := cr_ml_r (cr_mo d)
  unfold cr_dt
  omega
theorem cr_fe_r (d : Nat) : 1 ≤ cr_fe d ∧ cr_fe d ≤ 31 ∧ cr_fe d = cr_ml (cr_mo d) - cr_dt d + 1 := by
  have h := cr_mo_in d
  have h1 := cr_mf_s (cr_mo d)
  have h2 := cr_ml_r (cr_mo d)
  unfold cr_fe cr_dt
  omega
def cr_per (f d : Nat) : Nat := if f = 0 then d else if f = 1 then (d + 5) / 7 else if f = 2 then cr_mo d else cr_mo d / 12
theorem cr_per_r (f : Nat) {d : Nat} (h : d < 7305) : cr_per f d < 7305 := by
  have := cr_mo_lt h
  unfold cr_per
  split
  · exact h
  · split
    · omega
    · split <;> omega
def cr_CX (mfA moA : Nat → Int32) : Prop := (∀ i, i ≤ 240 → mfA i = nI (cr_mf i)) ∧ (∀ d, d < 7305 → moA d = nI (cr_mo d))
def cr_CY (ya mb dta : Nat → Int32) : Prop := ∀ d, d < 7305 → ya d = nI (cr_mo d / 12) ∧ mb d = nI (cr_mo d % 12 + 1) ∧ dta d = nI (cr_dt d)
theorem cr_cl {d : Nat} (h : d < 7305) : (nI d).toNatClampNeg = d := nI_clamp (by omega)
theorem cr_in {d : Nat} (h : d < 7305) : vp_in (nI d) 7305 := vp_in_nI h (by decide)
theorem cr_div12 {a : Nat} (h : a < 2 ^ 31) : nI a / 12 = nI (a / 12) := pk_div (d := 12) h (by decide) (by decide)
theorem cr_div7 {a : Nat} (h : a < 2 ^ 31) : nI a / 7 = nI (a / 7) := pk_div (d := 7) h (by decide) (by decide)
theorem cr_div4 {a : Nat} (h : a < 2 ^ 31) : nI a / 4 = nI (a / 4) := pk_div (d := 4) h (by decide) (by decide)
theorem cr_rem12 {a : Nat} (h : a < 2 ^ 31) : nI a - nI a / 12 * 12 = nI (a % 12) := pk_rem (d := 12) h (by decide) (by decide)
theorem cr_rem7 {a : Nat} (h : a < 2 ^ 31) : nI a - nI a / 7 * 7 = nI (a % 7) := pk_rem (d := 7) h (by decide) (by decide)
theorem cr_rem4 {a : Nat} (h : a < 2 ^ 31) : nI a - nI a / 4 * 4 = nI (a % 4) := pk_rem (d := 4) h (by decide) (by decide)
theorem cr_add5 (a : Nat) : nI a + 5 = nI (a + 5) := nI_add a 5
theorem cr_w7 {d : Nat} (h : d < 7305) : (nI d + 5) - (nI d + 5) / 7 * 7 = nI ((d + 5) % 7) := by
  rw [cr_add5, cr_rem7 (by omega)]
theorem cr_p7 {d : Nat} (h : d < 7305) : (nI d + 5) / 7 = nI ((d + 5) / 7) := by
  rw [cr_add5, cr_div7 (by omega)]
/-! bits -/
theorem cr_bt1 : ∀ i, i < 32 → bt 1 i = decide (i = 0) := by decide +kernel
theorem cr_a1 (y : Int32) : y &&& 1 = cr_b (bt y 0) := by
  apply b_ext
  intro i hi
  rw [b_and, cr_bt1 i hi]
  by_cases z : i = 0
  · subst z
    cases bt y 0 <;> decide
  · rw [decide_eq_false z, Bool.and_false]
    cases bt y 0
    · exact (b_0 i).symm
    · show false = bt 1 i
      rw [cr_bt1 i hi, decide_eq_false z]
theorem cr_ush (x : Int32) {k : Nat} (hk : k < 32) : (x.toUInt32 >>> ((nI k).toUInt32 &&& Int32.toUInt32 31)).toInt32 &&& 1 = cr_b (bt x k) := by
  rw [cr_a1, b_ushr k hk x 0]
  rfl
theorem cr_ssh (x : Int32) {k : Nat} (hk : k < 32) : (x >>> (nI k &&& 31)) &&& 1 = cr_b (bt x k) := by
  rw [cr_a1, b_sshr k hk x (by decide)]
  simp [hk]
theorem cr_hb {post : Int32 → Prop} (x : Int32) {k : Nat} (hk : k < 32) (h : post (cr_b (bt x k))) : wpX_hasBit post x (nI k) := by
  unfold wpX_hasBit
  rw [cr_ush x hk]
  cases hb : bt x k
  · rw [hb] at h
    exact br_f (by decide) h
  · rw [hb] at h
    exact br_t rfl h
theorem cr_or0 (x y : Int32) : (x ||| y) = 0 ↔ x = 0 ∧ y = 0 := by
  constructor
  · intro h
    constructor
    · apply b_ext
      intro i hi
      have := congrArg (fun z => bt z i) h
      simp only [b_or, b_0, Bool.or_eq_false_iff] at this
      rw [b_0]
      exact this.1
    · apply b_ext
      intro i hi
      have := congrArg (fun z => bt z i) h
      simp only [b_or, b_0, Bool.or_eq_false_iff] at this
      rw [b_0]
      exact this.2
  · rintro ⟨rfl, rfl⟩
    rfl
theorem cr_xml {post : Int32 → Prop} {i : Nat} (hi : i < 2 ^ 30) (h : post (nI (cr_ml i))) : wpX_monthLength post (nI i) := by
  unfold wpX_monthLength
  rw [cr_rem12 (by omega), nI_1, cr_div12 (by omega), cr_rem4 (by omega)]
  refine ⟨by decide, nm_e ?_⟩
  unfold cr_ml at h
  have h12 : i % 12 < 12 := Nat.mod_lt _ (by decide)
  generalize i % 12 = r at h h12
  rcases (by omega : r = 0 ∨ r = 1 ∨ r = 2 ∨ r = 3 ∨ r = 4 ∨ r = 5 ∨ r = 6 ∨ r = 7 ∨ r = 8 ∨ r = 9 ∨ r = 10 ∨ r = 11) with rfl | rfl | rfl | rfl | rfl | rfl | rfl | rfl | rfl | rfl | rfl | rfl
  · exact br_t (by decide) h
  · refine br_f (by decide) (br_f (by decide) (br_t (by decide) ⟨by decide, by decide, ?_⟩))
    by_cases z : i / 12 % 4 = 0
    · rw [if_pos rfl, if_pos z] at h
      rw [z]
      exact br_t rfl h
    · rw [if_pos rfl, if_neg z] at h
      exact br_f (nI_ne0 (by omega) (by omega)) h
  · exact br_f (by decide) (br_f (by decide) (br_f (by decide) (br_t (by decide) h)))
  · exact br_f (by decide) (br_f (by decide) (br_f (by decide) (br_f (by decide) (br_t (by decide) h))))
  · exact br_f (by decide) (br_f (by decide) (br_f (by decide) (br_f (by decide) (br_f (by decide) (br_t (by decide) h)))))
  · exact br_f (by decide) (br_f (by decide) (br_f (by decide) (br_f (by decide) (br_f (by decide) (br_f (by decide) (br_t (by decide) h))))))
  · exact br_f (by decide) (br_f (by decide) (br_f (by decide) (br_f (by decide) (br_f (by decide) (br_f (by decide) (br_f (by decide) (br_t (by decide) h)))))))
  · exact br_f (by decide) (br_f (by decide) (br_f (by decide) (br_f (by decide) (br_f (by decide) (br_f (by decide) (br_f (by decide) (br_f (by decide) (br_t (by decide) h))))))))
  · exact br_f (by decide) (br_f (by decide) (br_f (by decide) (br_f (by decide) (br_f (by decide) (br_f (by decide) (br_f (by decide) (br_f (by decide) (br_f (by decide) (br_t (by decide) h)))))))))
  · exact br_f (by decide) (br_f (by decide) (br_f (by decide) (br_f (by decide) (br_f (by decide) (br_f (by decide) (br_f (by decide) (br_f (by decide) (br_f (by decide) (br_f (by decide) (br_t (by decide) h))))))))))
  · exact br_f (by decide) (br_f (by decide) (br_f (by decide) (br_f (by decide) (br_f (by decide) (br_f (by decide) (br_f (by decide) (br_f (by decide) (br_f (by decide) (br_f (by decide) (br_f (by decide) (br_t (by decide) h)))))))))))
  · exact br_f (by decide) (br_t (by decide) h)
theorem cr_yle {post : Int32 → Prop} {v : SY} {i : Nat} (h : post (nI (cr_ml i))) (hi : i < 2 ^ 30) : wpY_length post v (nI (i / 12)) (nI (i % 12 + 1)) := by
  obtain ⟨s, f, t, ms, ds, ls, ws, o, p, c, e, n, kn, ya, mb, dta, ex, inc, ca, da⟩ := v
  unfold wpY_length
  dsimp only
  rw [cr_rem4 (by omega)]
  unfold cr_ml at h
  have h12 : i % 12 < 12 := Nat.mod_lt _ (by decide)
  generalize i % 12 = r at h h12
  rcases (by omega : r = 0 ∨ r = 1 ∨ r = 2 ∨ r = 3 ∨ r = 4 ∨ r = 5 ∨ r = 6 ∨ r = 7 ∨ r = 8 ∨ r = 9 ∨ r = 10 ∨ r = 11) with rfl | rfl | rfl | rfl | rfl | rfl | rfl | rfl | rfl | rfl | rfl | rfl
  · exact br_f (by decide) (br_f (by decide) (br_f (by decide) (br_f (by decide) (br_f (by decide) h))))
  · refine br_t (by decide) ⟨by decide, ?_⟩
    by_cases z : i / 12 % 4 = 0
    · rw [if_pos rfl, if_pos z] at h
      rw [z]
      exact br_t rfl h
    · rw [if_pos rfl, if_neg z] at h
      exact br_f (nI_ne0 (by omega) (by omega)) h
  · exact br_f (by decide) (br_f (by decide) (br_f (by decide) (br_f (by decide) (br_f (by decide) h))))
  · exact br_f (by decide) (br_t (by decide) h)
  · exact br_f (by decide) (br_f (by decide) (br_f (by decide) (br_f (by decide) (br_f (by decide) h))))
  · exact br_f (by decide) (br_f (by decide) (br_t (by decide) h))
  · exact br_f (by decide) (br_f (by decide) (br_f (by decide) (br_f (by decide) (br_f (by decide) h))))
  · exact br_f (by decide) (br_f (by decide) (br_f (by decide) (br_f (by decide) (br_f (by decide) h))))
  · exact br_f (by decide) (br_f (by decide) (br_f (by decide) (br_t (by decide) h)))
  · exact br_f (by decide) (br_f (by decide) (br_f (by decide) (br_f (by decide) (br_f (by decide) h))))
  · exact br_f (by decide) (br_f (by decide) (br_f (by decide) (br_f (by decide) (br_t (by decide) h))))
  · exact br_f (by decide) (br_f (by decide) (br_f (by decide) (br_f (by decide) (br_f (by decide) h))))
end
section
/-! a candidate, as a pure function, and X's walk to it -/
def cr_pc (s f t d : Nat) : Bool := decide (cr_per f s ≤ cr_per f d) && decide ((cr_per f d - cr_per f s) % t = 0)
def cr_fm (ms : Int32) (d : Nat) : Bool := decide (ms = 0) || bt ms (cr_mo d % 12 + 1)
def cr_fd (ds ls : Int32) (d : Nat) : Bool := (decide (ds = 0) && decide (ls = 0)) || (bt ds (cr_dt d) || bt ls (cr_fe d))
def cr_lo (f : Nat) (ms : Int32) (d : Nat) : Nat := if f = 3 ∧ ms = 0 then cr_mo d / 12 * 12 else cr_mo d
def cr_ln (f : Nat) (ms : Int32) : Nat := if f = 3 ∧ ms = 0 then 12 else 1
def cr_rk (f : Nat) (ms o : Int32) (d : Nat) : Bool := decide (o = 0) || decide (f < 2) || (if o ≤ 0 then decide (nI ((cr_mf (cr_lo f ms d + cr_ln f ms) - 1 - d) / 7 + 1) = -o) else decide (nI ((d - cr_mf (cr_lo f ms d)) / 7 + 1) = o))
def cr_fw (f : Nat) (ms ws o : Int32) (d : Nat) : Bool := decide (ws = 0) || (bt ws ((d + 5) % 7) && cr_rk f ms o d)
def cr_fs (s f : Nat) (ms ds ls ws : Int32) (d : Nat) : Bool := if ds = 0 ∧ ls = 0 ∧ ws = 0 ∧ f ≠ 0 then (if f = 1 then decide ((d + 5) % 7 = (s + 5) % 7) else decide (cr_dt d = cr_dt s) && (decide (f = 2) || decide (ms ≠ 0) || decide (cr_mo d % 12 = cr_mo s % 12))) else true
def cr_cd (s f t : Nat) (ms ds ls ws o : Int32) (d : Nat) : Bool := cr_pc s f t d && cr_fm ms d && cr_fd ds ls d && cr_fw f ms ws o d && cr_fs s f ms ds ls ws d
theorem cr_lo_r (f : Nat) (ms : Int32) {d : Nat} (hd : d < 7305) : cr_lo f ms d + cr_ln f ms ≤ 240 ∧ cr_mf (cr_lo f ms d) ≤ d ∧ d < cr_mf (cr_lo f ms d + cr_ln f ms) := by
  have h1 := cr_mo_lt hd
  have h2 := cr_mo_in d
  unfold cr_lo cr_ln
  split
  · have h3 := cr_mono' (show cr_mo d / 12 * 12 ≤ cr_mo d by omega)
    have h4 := cr_mono' (show cr_mo d + 1 ≤ cr_mo d / 12 * 12 + 12 by omega)
    omega
  · omega
section
variable {n s f t c e d : Nat} {ms ds ls ws o p : Int32} {mfA moA ser sd : Nat → Int32} {post : Int32 → Prop}
theorem cr_xpo (hC : cr_CX mfA moA) (hf : f ≤ 3) (hd : d < 7305) (h : post (nI (cr_per f d))) : wpX_periodOf post (nI n, nI s, nI f, nI t, ms, ds, ls, ws, o, p, nI c, nI e, mfA, moA, ser, sd) (nI d) := by
  unfold wpX_periodOf
  dsimp only
  have hi := cr_in hd
  have e1 : moA (nI d).toNatClampNeg = nI (cr_mo d) := by rw [cr_cl hd]; exact hC.2 d hd
  have hm := cr_mo_lt hd
  rw [e1, cr_p7 hd, cr_div12 (by omega)]
  rcases (by omega : f = 0 ∨ f = 1 ∨ f = 2 ∨ f = 3) with rfl | rfl | rfl | rfl
  · exact br_f (by decide) (br_f (by decide) (br_t (by decide) h))
  · exact br_f (by decide) (br_f (by decide) (br_f (by decide) (br_t (by decide) ⟨by decide, h⟩)))
  · exact br_f (by decide) (br_f (by decide) (br_f (by decide) (br_f (by decide) (br_t (by decide) ⟨hi, h⟩))))
  · exact br_f (by decide) (br_t (by decide) ⟨hi, by decide, h⟩)
/-- the shared end of both period tests -/
theorem cr_gap {a b t : Nat} (ha : a < 2 ^ 29) (hb : b < 2 ^ 29) (ht : 1 ≤ t) (ht' : t ≤ 20) {A B : Prop} (h0 : ¬ (b ≤ a ∧ (a - b) % t = 0) → A) (h1 : b ≤ a ∧ (a - b) % t = 0 → B) : (nI a - nI b < 0 → A) ∧ (¬ nI a - nI b < 0 → (¬ nI t = 0 ∧ (((nI a - nI b) - (nI a - nI b) / nI t * nI t = 0 → B) ∧ (¬ (nI a - nI b) - (nI a - nI b) / nI t * nI t = 0 → A)))) := by
  by_cases z : b ≤ a
  · rw [pk_sub z, pk_rem (by omega) (by omega) (by omega)]
    have hm : (a - b) % t < 20 := Nat.lt_of_lt_of_le (Nat.mod_lt _ (by omega)) ht'
    refine br_f (nI_pos (by omega)) ⟨nI_ne0 (by omega) (by omega), ?_⟩
    by_cases w : (a - b) % t = 0
    · rw [w]
      exact br_t rfl (h1 ⟨z, w⟩)
    · exact br_f (nI_ne0 (by omega) (by omega)) (h0 fun k => w k.2)
  · exact br_t (pk_sneg (by omega) (by omega)) (h0 fun k => z k.1)
theorem cr_xpc (hC : cr_CX mfA moA) (hf : f ≤ 3) (hs : s < 7305) (ht : 1 ≤ t) (ht' : t ≤ 20) (hd : d < 7305) (h : post (cr_b (cr_pc s f t d))) : wpX_periodCountsIn post (nI n, nI s, nI f, nI t, ms, ds, ls, ws, o, p, nI c, nI e, mfA, moA, ser, sd) (nI d) := by
  unfold wpX_periodCountsIn
  dsimp only
  refine cr_xpo hC hf hd (cr_xpo hC hf hs (nm_e ?_))
  have h1 := cr_per_r f hd
  have h2 := cr_per_r f hs
  refine cr_gap (by omega) (by omega) ht ht' (fun z => ?_) (fun z => ?_)
  · have e : cr_pc s f t d = false := by
      unfold cr_pc
      simp only [Bool.and_eq_false_iff, decide_eq_false_iff_not]
      by_cases z1 : cr_per f s ≤ cr_per f d
      · exact Or.inr fun z2 => z ⟨z1, z2⟩
      · exact Or.inl z1
    rw [e] at h
    exact h
  · have e : cr_pc s f t d = true := by
      unfold cr_pc
      rw [decide_eq_true z.1, decide_eq_true z.2]
      rfl
    rw [e] at h
    exact h
theorem cr_xfm (hC : cr_CX mfA moA) (hd : d < 7305) (h : post (cr_b (cr_fm ms d))) : wpX_fitsMonths post (nI n, nI s, nI f, nI t, ms, ds, ls, ws, o, p, nI c, nI e, mfA, moA, ser, sd) (nI d) := by
  unfold wpX_fitsMonths
  dsimp only
  have hi := cr_in hd
  have e1 : moA (nI d).toNatClampNeg = nI (cr_mo d) := by rw [cr_cl hd]; exact hC.2 d hd
  have hm := cr_mo_lt hd
  rw [e1, cr_rem12 (by omega), nI_1]
  unfold cr_fm at h
  by_cases z : ms = 0
  · rw [decide_eq_true z] at h
    exact br_t z h
  · rw [decide_eq_false z, Bool.false_or] at h
    refine br_f z ⟨hi, by decide, cr_hb ms (by omega) (cr_sel (fun k => ?_) (fun k => ?_))⟩
    · rw [k] at h; exact h
    · rw [k] at h; exact h
theorem cr_xdm (hC : cr_CX mfA moA) (hd : d < 7305) (h : post (nI (cr_dt d))) : wpX_dayOfMonthOf post (nI n, nI s, nI f, nI t, ms, ds, ls, ws, o, p, nI c, nI e, mfA, moA, ser, sd) (nI d) := by
  unfold wpX_dayOfMonthOf
  dsimp only
  have hi := cr_in hd
  have e1 : moA (nI d).toNatClampNeg = nI (cr_mo d) := by rw [cr_cl hd]; exact hC.2 d hd
  have hm := cr_mo_lt hd
  have h1 := cr_mo_in d
  rw [e1, nI_clamp (by omega), hC.1 _ (by omega), pk_sub h1.1, nI_1]
  exact ⟨hi, vp_in_nI (by omega) (by decide), h⟩
theorem cr_xfd16 (hC : cr_CX mfA moA) (hd : d < 7305) (h : post (cr_b (bt ds (cr_dt d) || bt ls (cr_fe d)))) : wX_fitsMonthDays_16 post (nI d) (nI n) (nI s) (nI f) (nI t) ms ds ls ws o p (nI c) (nI e) mfA moA ser sd := by
  unfold wX_fitsMonthDays_16
  have hi := cr_in hd
  have e1 : moA (nI d).toNatClampNeg = nI (cr_mo d) := by rw [cr_cl hd]; exact hC.2 d hd
  have hm := cr_mo_lt hd
  have h1 := cr_mo_in d
  have h2 := cr_dt_r d
  have h3 := cr_fe_r d
  rw [e1, nI_1, nI_clamp (by omega), hC.1 _ (by omega), pk_sub (by omega)]
  refine ⟨hi, vp_in_nI (by omega) (by decide), nm_e (cr_xdm hC hd (cr_hb ds (by omega) (cr_sel (fun k => ?_) (fun k => ?_))))⟩
  · refine cr_hb (k := cr_fe d) ls (by omega) (cr_sel (fun k' => ?_) (fun k' => ?_))
    · rw [k, k'] at h; exact h
    · rw [k, k'] at h; exact h
  · rw [k] at h; exact h
theorem cr_xfd (hC : cr_CX mfA moA) (hd : d < 7305) (h : post (cr_b (cr_fd ds ls d))) : wpX_fitsMonthDays post (nI n, nI s, nI f, nI t, ms, ds, ls, ws, o, p, nI c, nI e, mfA, moA, ser, sd) (nI d) := by
  unfold wpX_fitsMonthDays
  dsimp only
  unfold cr_fd at h
  by_cases z : ds = 0
  · by_cases z' : ls = 0
    · rw [decide_eq_true z, decide_eq_true z'] at h
      exact br_t z (br_t z' h)
    · rw [decide_eq_false z', Bool.and_false, Bool.false_or] at h
      exact br_t z (br_f z' (cr_xfd16 hC hd h))
  · rw [decide_eq_false z, Bool.false_and, Bool.false_or] at h
    exact br_f z (cr_xfd16 hC hd h)
theorem cr_xwd (hd : d < 7305) (h : post (nI ((d + 5) % 7))) : wpX_weekdayOf post (nI d) := by
  unfold wpX_weekdayOf
  rw [cr_w7 hd]
  exact ⟨by decide, h⟩
theorem cr_sb {c : Prop} {dc : Decidable c} {A : Int32 → Prop} (h : A (cr_b (decide c))) : (c → A 1) ∧ (¬ c → A 0) := by
  by_cases z : c
  · rw [decide_eq_true z] at h
    exact br_t z h
  · rw [decide_eq_false z] at h
    exact br_f z h
theorem cr_xfo59 {lo ln : Nat} (hC : cr_CX mfA moA) (hl : 1 ≤ ln) (h1 : lo + ln ≤ 240) (h2 : cr_mf lo ≤ d) (h3 : d < cr_mf (lo + ln)) (h : post (cr_b (if o ≤ 0 then decide (nI ((cr_mf (lo + ln) - 1 - d) / 7 + 1) = -o) else decide (nI ((d - cr_mf lo) / 7 + 1) = o)))) : wX_fitsOrdinal_59 post (nI d) (nI lo) (nI ln) (nI n) (nI s) (nI f) (nI t) ms ds ls ws o p (nI c) (nI e) mfA moA ser sd := by
  unfold wX_fitsOrdinal_59
  have h4 := cr_mf_le h1
  have e1 : mfA (nI (lo + ln)).toNatClampNeg = nI (cr_mf (lo + ln)) := by rw [nI_clamp (by omega)]; exact hC.1 _ h1
  have e2 : mfA (nI lo).toNatClampNeg = nI (cr_mf lo) := by rw [nI_clamp (by omega)]; exact hC.1 _ (by omega)
  have e3 : nI (cr_mf (lo + ln)) - 1 = nI (cr_mf (lo + ln) - 1) := pk_sub (b := 1) (by omega)
  rw [nI_add, e1, e2, e3, pk_sub (by omega), pk_sub h2, cr_div7 (by omega), cr_div7 (by omega), nI_1, nI_1]
  by_cases z : o ≤ 0
  · rw [if_pos z] at h
    exact br_t z ⟨vp_in_nI (by omega) (by decide), by decide, cr_sb h⟩
  · rw [if_neg z] at h
    exact br_f z ⟨vp_in_nI (by omega) (by decide), by decide, cr_sb h⟩
theorem cr_xfo (hC : cr_CX mfA moA) (hf : f ≤ 3) (hd : d < 7305) (h : post (cr_b (cr_rk f ms o d))) : wpX_fitsOrdinal post (nI n, nI s, nI f, nI t, ms, ds, ls, ws, o, p, nI c, nI e, mfA, moA, ser, sd) (nI d) := by
  unfold wpX_fitsOrdinal
  dsimp only
  have hi := cr_in hd
  have e1 : moA (nI d).toNatClampNeg = nI (cr_mo d) := by rw [cr_cl hd]; exact hC.2 d hd
  have hm := cr_mo_lt hd
  have hl := cr_lo_r f ms hd
  have e2 : nI (cr_mo d / 12) * 12 = nI (cr_mo d / 12 * 12) := pk_mul _ 12
  rw [e1]
  unfold cr_rk at h
  by_cases z : o = 0
  · rw [decide_eq_true z] at h
    exact br_t z h
  rw [decide_eq_false z, Bool.false_or] at h
  refine br_f z ?_
  rcases (by omega : f = 0 ∨ f = 1 ∨ f = 2 ∨ f = 3) with rfl | rfl | rfl | rfl
  · exact br_t (by decide) h
  · exact br_f (by decide) (br_t (by decide) h)
  · exact br_f (by decide) (br_f (by decide) ⟨hi, nm_e (br_f (by decide) (cr_xfo59 (lo := cr_mo d) (ln := 1) hC (by decide) hl.1 hl.2.1 hl.2.2 h))⟩)
  · refine br_f (by decide) (br_f (by decide) ⟨hi, nm_e (br_t (by decide) ?_)⟩)
    by_cases z' : ms = 0
    · have a1 : cr_lo 3 ms d = cr_mo d / 12 * 12 := if_pos ⟨rfl, z'⟩
      have a2 : cr_ln 3 ms = 12 := if_pos ⟨rfl, z'⟩
      rw [a1, a2] at h hl
      refine br_t z' ⟨by decide, nm_r (e' := nI (cr_mo d / 12 * 12)) (by rw [cr_div12 (by omega)]; exact e2) ?_⟩
      exact cr_xfo59 (lo := cr_mo d / 12 * 12) (ln := 12) hC (by decide) hl.1 hl.2.1 hl.2.2 h
    · have a1 : cr_lo 3 ms d = cr_mo d := if_neg (fun k => z' k.2)
      have a2 : cr_ln 3 ms = 1 := if_neg (fun k => z' k.2)
      rw [a1, a2] at h hl
      exact br_f z' (cr_xfo59 (lo := cr_mo d) (ln := 1) hC (by decide) hl.1 hl.2.1 hl.2.2 h)
theorem cr_xfw (hC : cr_CX mfA moA) (hf : f ≤ 3) (hd : d < 7305) (h : post (cr_b (cr_fw f ms ws o d))) : wpX_fitsWeekdays post (nI n, nI s, nI f, nI t, ms, ds, ls, ws, o, p, nI c, nI e, mfA, moA, ser, sd) (nI d) := by
  unfold wpX_fitsWeekdays
  dsimp only
  unfold cr_fw at h
  by_cases z : ws = 0
  · rw [decide_eq_true z] at h
    exact br_t z h
  rw [decide_eq_false z, Bool.false_or] at h
  refine br_f z (cr_xwd hd (cr_hb ws (by omega) (cr_sel (fun k => ?_) (fun k => ?_))))
  · rw [k] at h; exact h
  · rw [k, Bool.true_and] at h
    refine cr_xfo hC hf hd (cr_sel (fun k' => ?_) (fun k' => ?_))
    · rw [k'] at h; exact h
    · rw [k'] at h; exact h
theorem cr_xfs (hC : cr_CX mfA moA) (hf : f ≤ 3) (hs : s < 7305) (hd : d < 7305) (h : post (cr_b (cr_fs s f ms ds ls ws d))) : wpX_fitsStart post (nI n, nI s, nI f, nI t, ms, ds, ls, ws, o, p, nI c, nI e, mfA, moA, ser, sd) (nI d) := by
  unfold wpX_fitsStart
  dsimp only
  have hi := cr_in hd
  have hj := cr_in hs
  have e1 : moA (nI d).toNatClampNeg = nI (cr_mo d) := by rw [cr_cl hd]; exact hC.2 d hd
  have e2 : moA (nI s).toNatClampNeg = nI (cr_mo s) := by rw [cr_cl hs]; exact hC.2 s hs
  have hm := cr_mo_lt hd
  have hm' := cr_mo_lt hs
  have hq := cr_dt_r d
  have hq' := cr_dt_r s
  rw [e1, e2, cr_rem12 (by omega), cr_rem12 (by omega)]
  unfold cr_fs at h
  by_cases z1 : ds = 0
  · by_cases z2 : ls = 0
    · by_cases z3 : ws = 0
      · refine br_t z1 (br_t z2 (br_t z3 ?_))
        rcases (by omega : f = 0 ∨ f = 1 ∨ f = 2 ∨ f = 3) with rfl | rfl | rfl | rfl
        · rw [if_neg (fun k => k.2.2.2 rfl)] at h
          exact br_t (by decide) h
        · rw [if_pos ⟨z1, z2, z3, by decide⟩, if_pos rfl] at h
          refine br_f (by decide) (br_t (by decide) (cr_xwd hd (cr_xwd hs ?_)))
          rw [nI_eq (by omega) (by omega)]
          exact cr_sb h
        · rw [if_pos ⟨z1, z2, z3, by decide⟩, if_neg (by decide)] at h
          refine br_f (by decide) (br_f (by decide) (cr_xdm hC hd (cr_xdm hC hs ?_)))
          rw [nI_eq (by omega) (by omega)]
          refine br_c (fun k => ?_) (fun k => ?_)
          · rw [decide_eq_true k] at h
            exact br_t (by decide) h
          · rw [decide_eq_false k] at h
            exact h
        · rw [if_pos ⟨z1, z2, z3, by decide⟩, if_neg (by decide)] at h
          refine br_f (by decide) (br_f (by decide) (cr_xdm hC hd (cr_xdm hC hs ?_)))
          rw [nI_eq (by omega) (by omega), nI_eq (by omega) (by omega)]
          refine br_c (fun k => br_f (by decide) ?_) (fun k => ?_)
          · rw [decide_eq_true k, Bool.true_and] at h
            by_cases z4 : ms = 0
            · rw [decide_eq_false (show ¬ (3 : Nat) = 2 by decide), decide_eq_false (show ¬ ms ≠ 0 from fun q => q z4), Bool.false_or, Bool.false_or] at h
              exact br_t z4 ⟨hi, by decide, hj, by decide, cr_sb h⟩
            · rw [decide_eq_true (show ms ≠ 0 from z4)] at h
              exact br_f z4 h
          · rw [decide_eq_false k] at h
            exact h
      · rw [if_neg (fun k => z3 k.2.2.1)] at h
        exact br_t z1 (br_t z2 (br_f z3 h))
    · rw [if_neg (fun k => z2 k.2.1)] at h
      exact br_t z1 (br_f z2 h)
  · rw [if_neg (fun k => z1 k.1)] at h
    exact br_f z1 h
theorem cr_xcd (hC : cr_CX mfA moA) (hf : f ≤ 3) (hs : s < 7305) (ht : 1 ≤ t) (ht' : t ≤ 20) (hd : d < 7305) (h : post (cr_b (cr_cd s f t ms ds ls ws o d))) : wpX_isCandidate post (nI n, nI s, nI f, nI t, ms, ds, ls, ws, o, p, nI c, nI e, mfA, moA, ser, sd) (nI d) := by
  unfold wpX_isCandidate
  dsimp only
  unfold cr_cd at h
  refine cr_xpc hC hf hs ht ht' hd (cr_sel (fun k => ?_) (fun k => ?_))
  · rw [k] at h; exact h
  rw [k, Bool.true_and] at h
  refine cr_xfm hC hd (cr_sel (fun k => ?_) (fun k => ?_))
  · rw [k] at h; exact h
  rw [k, Bool.true_and] at h
  refine cr_xfd hC hd (cr_sel (fun k => ?_) (fun k => ?_))
  · rw [k] at h; exact h
  rw [k, Bool.true_and] at h
  refine cr_xfw hC hf hd (cr_sel (fun k => ?_) (fun k => ?_))
  · rw [k] at h; exact h
  rw [k, Bool.true_and] at h
  refine cr_xfs hC hf hs hd (cr_sel (fun k => ?_) (fun k => ?_))
  · rw [k] at h; exact h
  · rw [k] at h; exact h
end
end
section
/-! Y's walk to the same candidate -/
def cr_k (f : Nat) : Nat := if f = 2 then 1 else 0
section
variable {n s f t c e d : Nat} {ms ds ls ws o p kn : Int32} {ya mb dta ex inc ca da : Nat → Int32} {post : Int32 → Prop}
theorem cr_yid {v : SY} (hd : d < 7305) (h : post 1) : wpY_isDay post v (nI d) := by
  obtain ⟨s, f, t, ms, ds, ls, ws, o, p, c, e, n, kn, ya, mb, dta, ex, inc, ca, da⟩ := v
  unfold wpY_isDay
  dsimp only
  exact br_f (nI_pos (by omega)) (br_f (nI_ge (b := 7305) hd (by decide)) h)
theorem cr_yis {v : SY} {x : Int32} (hx : x < 0 ∨ 7305 ≤ x) (h : post 0) : wpY_isDay post v x := by
  obtain ⟨s, f, t, ms, ds, ls, ws, o, p, c, e, n, kn, ya, mb, dta, ex, inc, ca, da⟩ := v
  unfold wpY_isDay
  dsimp only
  rcases hx with hx | hx
  · exact br_t hx h
  · by_cases z : x < 0
    · exact br_t z h
    · exact br_f z (br_t hx h)
theorem cr_ypo (hC : cr_CY ya mb dta) (hf : f ≤ 3) (hd : d < 7305) (h : post (nI (cr_per f d + cr_k f))) : wpY_period post (nI s, nI f, nI t, ms, ds, ls, ws, o, p, nI c, nI e, nI n, kn, ya, mb, dta, ex, inc, ca, da) (nI d) := by
  unfold wpY_period
  dsimp only
  have hi := cr_in hd
  have hm := cr_mo_lt hd
  have e0 := hC d hd
  have e1 : nI (cr_mo d / 12) * 12 + nI (cr_mo d % 12 + 1) = nI (cr_mo d + 1) := by
    have : nI (cr_mo d / 12) * 12 = nI (cr_mo d / 12 * 12) := pk_mul _ 12
    rw [this, nI_add]
    exact congrArg nI (by omega)
  rw [cr_cl hd, e0.1, e0.2.1, e1, cr_p7 hd]
  rcases (by omega : f = 0 ∨ f = 1 ∨ f = 2 ∨ f = 3) with rfl | rfl | rfl | rfl
  · exact br_t (by decide) h
  · exact br_f (by decide) (br_t (by decide) ⟨by decide, h⟩)
  · exact br_f (by decide) (br_f (by decide) (br_t (by decide) ⟨hi, hi, h⟩))
  · exact br_f (by decide) (br_f (by decide) (br_f (by decide) ⟨hi, h⟩))
theorem cr_ywd {v : SY} (hd : d < 7305) (h : post (nI ((d + 5) % 7))) : wpY_weekday post v (nI d) := by
  obtain ⟨s, f, t, ms, ds, ls, ws, o, p, c, e, n, kn, ya, mb, dta, ex, inc, ca, da⟩ := v
  unfold wpY_weekday
  dsimp only
  refine cr_yid hd (br_f (by decide) ?_)
  rw [cr_w7 hd]
  exact ⟨by decide, h⟩
theorem cr_yfy {v : SY} {y : Nat} (hy : y < 21) (h : post (nI (cr_mf (y * 12)))) : wpY_firstOfYear post v (nI y) := by
  obtain ⟨s, f, t, ms, ds, ls, ws, o, p, c, e, n, kn, ya, mb, dta, ex, inc, ca, da⟩ := v
  unfold wpY_firstOfYear
  dsimp only
  rw [cr_fy y hy] at h
  have e1 : (365 : Int32) * nI y = nI (365 * y) := pk_mul 365 y
  have e2 : nI y + 3 = nI (y + 3) := nI_add y 3
  rw [e1, e2, cr_div4 (by omega), nI_add]
  exact ⟨by decide, h⟩
theorem cr_y112 {lo hi : Nat} (h1 : lo ≤ d) (h2 : d < hi) (h3 : hi ≤ 7305) (h : post (cr_b (if o ≤ 0 then decide (nI ((hi - 1 - d) / 7 + 1) = -o) else decide (nI ((d - lo) / 7 + 1) = o)))) : wY_ranks_112 post (nI (hi - lo)) (nI (d - lo)) (nI s) (nI f) (nI t) ms ds ls ws o p (nI c) (nI e) (nI n) kn ya mb dta ex inc ca da := by
  unfold wY_ranks_112
  have e3 : nI (hi - lo) - 1 = nI (hi - lo - 1) := pk_sub (b := 1) (by omega)
  have e4 : hi - lo - 1 - (d - lo) = hi - 1 - d := by omega
  rw [e3, pk_sub (by omega), e4, cr_div7 (by omega), cr_div7 (by omega), nI_1, nI_1]
  by_cases z : o ≤ 0
  · rw [if_pos z] at h
    exact br_t z ⟨by decide, cr_sb h⟩
  · rw [if_neg z] at h
    exact br_f z ⟨by decide, cr_sb h⟩
theorem cr_y36 (hC : cr_CY ya mb dta) (hd : d < 7305) (h : post (cr_b (if o ≤ 0 then decide (nI ((cr_mf (cr_mo d + 1) - 1 - d) / 7 + 1) = -o) else decide (nI ((d - cr_mf (cr_mo d)) / 7 + 1) = o)))) : wY_ranks_37 post (nI d) 0 (nI s) (nI f) (nI t) ms ds ls ws o p (nI c) (nI e) (nI n) kn ya mb dta ex inc ca da := by
  unfold wY_ranks_37
  have hi := cr_in hd
  have hm := cr_mo_lt hd
  have h1 := cr_mo_in d
  have h2 := cr_mf_le (show cr_mo d + 1 ≤ 240 by omega)
  have h3 := cr_mf_s (cr_mo d)
  have e0 := hC d hd
  rw [cr_cl hd, e0.1, e0.2.1]
  refine br_t rfl ⟨hi, hi, cr_yle (i := cr_mo d) ?_ (by omega)⟩
  unfold wY_ranks_84
  rw [cr_cl hd, e0.2.2]
  have e1 : nI (cr_dt d) - 1 = nI (d - cr_mf (cr_mo d)) := by
    unfold cr_dt
    exact pk_sub (b := 1) (by omega)
  have e2 : cr_ml (cr_mo d) = cr_mf (cr_mo d + 1) - cr_mf (cr_mo d) := by omega
  rw [e1, e2]
  exact br_t rfl ⟨hi, cr_y112 h1.1 h1.2 h2 h⟩
theorem cr_y37 (hC : cr_CY ya mb dta) (hd : d < 7305) (h : post (cr_b (if o ≤ 0 then decide (nI ((cr_mf (cr_mo d / 12 * 12 + 12) - 1 - d) / 7 + 1) = -o) else decide (nI ((d - cr_mf (cr_mo d / 12 * 12)) / 7 + 1) = o)))) : wY_ranks_37 post (nI d) 1 (nI s) (nI f) (nI t) ms ds ls ws o p (nI c) (nI e) (nI n) kn ya mb dta ex inc ca da := by
  unfold wY_ranks_37
  have hi := cr_in hd
  have hm := cr_mo_lt hd
  have h1 := cr_mo_in d
  have e0 := hC d hd
  have g1 := cr_mono' (show cr_mo d / 12 * 12 ≤ cr_mo d by omega)
  have g2 := cr_mono' (show cr_mo d + 1 ≤ cr_mo d / 12 * 12 + 12 by omega)
  have g3 := cr_mf_le (show cr_mo d / 12 * 12 + 12 ≤ 240 by omega)
  rw [cr_cl hd, e0.1, nI_1]
  refine br_f (by decide) ⟨hi, cr_yfy (by omega) ⟨hi, cr_yfy (by omega) ?_⟩⟩
  have e3 : (cr_mo d / 12 + 1) * 12 = cr_mo d / 12 * 12 + 12 := by omega
  unfold wY_ranks_84
  rw [cr_cl hd, e0.1, e3, pk_sub (by omega)]
  refine br_f (by decide) ⟨hi, cr_yfy (by omega) ?_⟩
  rw [pk_sub (by omega)]
  exact cr_y112 (by omega) (by omega) g3 h
theorem cr_yrk (hC : cr_CY ya mb dta) (hf : f ≤ 3) (hd : d < 7305) (h : post (cr_b (cr_rk f ms o d))) : wpY_ranks post (nI s, nI f, nI t, ms, ds, ls, ws, o, p, nI c, nI e, nI n, kn, ya, mb, dta, ex, inc, ca, da) (nI d) := by
  unfold wpY_ranks
  dsimp only
  unfold cr_rk at h
  by_cases z : o = 0
  · rw [decide_eq_true z] at h
    exact br_t z h
  rw [decide_eq_false z, Bool.false_or] at h
  refine br_f z ?_
  rcases (by omega : f = 0 ∨ f = 1 ∨ f = 2 ∨ f = 3) with rfl | rfl | rfl | rfl
  · exact br_f (by decide) h
  · exact br_f (by decide) h
  · refine br_t (by decide) (br_f (by decide) ?_)
    unfold wY_ranks_36
    exact cr_y36 hC hd h
  · refine br_t (by decide) (br_t (by decide) ?_)
    by_cases z' : ms = 0
    · have a1 : cr_lo 3 ms d = cr_mo d / 12 * 12 := if_pos ⟨rfl, z'⟩
      have a2 : cr_ln 3 ms = 12 := if_pos ⟨rfl, z'⟩
      rw [a1, a2] at h
      exact br_t z' (cr_y37 hC hd h)
    · have a1 : cr_lo 3 ms d = cr_mo d := if_neg (fun k => z' k.2)
      have a2 : cr_ln 3 ms = 1 := if_neg (fun k => z' k.2)
      rw [a1, a2] at h
      refine br_f z' ?_
      unfold wY_ranks_36
      exact cr_y36 hC hd h
theorem cr_y134 {q : Bool} (hC : cr_CY ya mb dta) (hf : f ≤ 3) (hs : s < 7305) (hd : d < 7305) (hq : q = !(decide (ds = 0) && decide (ls = 0))) (h : post (cr_b (cr_fw f ms ws o d && cr_fs s f ms ds ls ws d))) : wY_isCandidate_134 post (nI d) (cr_b q) (nI s) (nI f) (nI t) ms ds ls ws o p (nI c) (nI e) (nI n) kn ya mb dta ex inc ca da := by
  unfold wY_isCandidate_134
  have hi := cr_in hd
  have hj := cr_in hs
  have e0 := hC d hd
  have e1 := hC s hs
  have hm := cr_mo_lt hd
  have hm' := cr_mo_lt hs
  have hr := cr_dt_r d
  have hr' := cr_dt_r s
  rw [cr_cl hd, cr_cl hs, e0.2.1, e0.2.2, e1.2.1, e1.2.2, nI_eq (by omega) (by omega), nI_eq (by omega) (by omega)]
  by_cases z : ws = 0
  · have a1 : cr_fw f ms ws o d = true := by unfold cr_fw; rw [decide_eq_true z]; rfl
    rw [a1, Bool.true_and] at h
    refine br_t z (cr_sel (fun k => ?_) (fun k => ?_))
    · rw [k] at hq
      have hq' : (decide (ds = 0) && decide (ls = 0)) = true := by
        cases w : (decide (ds = 0) && decide (ls = 0))
        · rw [w] at hq; exact hq
        · rfl
      simp only [Bool.and_eq_true, decide_eq_true_eq] at hq'
      obtain ⟨z1, z2⟩ := hq'
      unfold cr_fs at h
      rcases (by omega : f = 0 ∨ f = 1 ∨ f = 2 ∨ f = 3) with rfl | rfl | rfl | rfl
      · rw [if_neg (fun k => k.2.2.2 rfl)] at h
        exact br_t (by decide) h
      · rw [if_pos ⟨z1, z2, z, by decide⟩, if_pos rfl] at h
        refine br_f (by decide) (br_t (by decide) (cr_ywd hd (cr_ywd hs ?_)))
        rw [nI_eq (by omega) (by omega)]
        exact cr_sb h
      · rw [if_pos ⟨z1, z2, z, by decide⟩, if_neg (by decide)] at h
        refine br_f (by decide) (br_f (by decide) ⟨hi, hj, br_c (fun k => ?_) (fun k => ?_)⟩)
        · rw [decide_eq_true k] at h
          exact br_t (by decide) h
        · rw [decide_eq_false k] at h
          exact h
      · rw [if_pos ⟨z1, z2, z, by decide⟩, if_neg (by decide)] at h
        refine br_f (by decide) (br_f (by decide) ⟨hi, hj, br_c (fun k => br_f (by decide) ?_) (fun k => ?_)⟩)
        · rw [decide_eq_true k, Bool.true_and, decide_eq_false (show ¬ (3 : Nat) = 2 by decide), Bool.false_or] at h
          by_cases z4 : ms = 0
          · rw [decide_eq_false (show ¬ ms ≠ 0 from fun q => q z4), Bool.false_or] at h
            have e5 : (cr_mo d % 12 + 1 = cr_mo s % 12 + 1) ↔ cr_mo d % 12 = cr_mo s % 12 := by omega
            rw [e5]
            exact br_t z4 ⟨hi, hj, cr_sb h⟩
          · rw [decide_eq_true (show ms ≠ 0 from z4)] at h
            exact br_f z4 h
        · rw [decide_eq_false k] at h
          exact h
    · have a2 : cr_fs s f ms ds ls ws d = true := by
        unfold cr_fs
        refine if_neg (fun w => ?_)
        rw [k, decide_eq_true w.1, decide_eq_true w.2.1] at hq
        exact absurd hq (by decide)
      rw [a2] at h
      exact h
  · have a2 : cr_fs s f ms ds ls ws d = true := by
      unfold cr_fs
      exact if_neg (fun w => z w.2.2.1)
    unfold cr_fw at h
    rw [a2, Bool.and_true, decide_eq_false z, Bool.false_or] at h
    refine br_f z (cr_ywd hd ?_)
    rw [cr_ssh ws (by omega)]
    refine cr_sel (fun k => ?_) (fun k => ?_)
    · rw [k] at h; exact h
    · rw [k, Bool.true_and] at h
      refine cr_yrk hC hf hd (cr_sel (fun k' => ?_) (fun k' => ?_))
      · rw [k'] at h; exact h
      · rw [k'] at h; exact h
theorem cr_y98 {q : Bool} (hC : cr_CY ya mb dta) (hf : f ≤ 3) (hs : s < 7305) (hd : d < 7305) (hq : q = !(decide (ds = 0) && decide (ls = 0))) (h : post (cr_b (cr_fd ds ls d && cr_fw f ms ws o d && cr_fs s f ms ds ls ws d))) : wY_isCandidate_98 post (nI d) (nI (cr_fe d)) (cr_b q) (nI s) (nI f) (nI t) ms ds ls ws o p (nI c) (nI e) (nI n) kn ya mb dta ex inc ca da := by
  unfold wY_isCandidate_98
  have hi := cr_in hd
  have e0 := hC d hd
  have hr := cr_dt_r d
  have hr' := cr_fe_r d
  rw [cr_cl hd, e0.2.2, cr_ssh ds (by omega), cr_ssh ls (by omega)]
  refine cr_sel (fun k => ?_) (fun k => ⟨hi, ?_⟩)
  · have a1 : cr_fd ds ls d = true := by
      unfold cr_fd
      cases w : (decide (ds = 0) && decide (ls = 0))
      · rw [w, k] at hq
        exact absurd hq (by decide)
      · rfl
    rw [a1, Bool.true_and] at h
    exact cr_y134 hC hf hs hd hq h
  · have a1 : cr_fd ds ls d = (bt ds (cr_dt d) || bt ls (cr_fe d)) := by
      unfold cr_fd
      cases w : (decide (ds = 0) && decide (ls = 0))
      · rfl
      · rw [w, k] at hq
        exact absurd hq (by decide)
    rw [a1] at h
    refine cr_sel (fun k1 => cr_sel (fun k2 => ?_) (fun k2 => ?_)) (fun k1 => ?_)
    · rw [k1, k2] at h; exact h
    · rw [k2, Bool.or_true, Bool.true_and] at h
      exact cr_y134 hC hf hs hd hq h
    · rw [k1, Bool.true_or, Bool.true_and] at h
      exact cr_y134 hC hf hs hd hq h
theorem cr_y55 (hC : cr_CY ya mb dta) (hf : f ≤ 3) (hs : s < 7305) (hd : d < 7305) (h : post (cr_b (cr_fd ds ls d && cr_fw f ms ws o d && cr_fs s f ms ds ls ws d))) : wY_isCandidate_55 post (nI d) (nI s) (nI f) (nI t) ms ds ls ws o p (nI c) (nI e) (nI n) kn ya mb dta ex inc ca da := by
  unfold wY_isCandidate_55
  have hi := cr_in hd
  have hm := cr_mo_lt hd
  have e0 := hC d hd
  have hr := cr_dt_r d
  have hr' := cr_fe_r d
  rw [cr_cl hd, e0.1, e0.2.1, e0.2.2]
  refine ⟨hi, hi, cr_yle (i := cr_mo d) ⟨hi, nm_r (e' := nI (cr_fe d)) (by rw [pk_sub (by omega), nI_1]; exact congrArg nI hr'.2.2.symm) ?_⟩ (by omega)⟩
  rw [cr_or0]
  refine br_c (fun k => ?_) (fun k => ?_)
  · exact cr_y98 (q := false) hC hf hs hd (by rw [decide_eq_true k.1, decide_eq_true k.2]; rfl) h
  · refine cr_y98 (q := true) hC hf hs hd ?_ h
    by_cases z : ds = 0
    · rw [decide_eq_false (fun w => k ⟨z, w⟩), Bool.and_false]; rfl
    · rw [decide_eq_false z]; rfl
theorem cr_ycd (hC : cr_CY ya mb dta) (hf : f ≤ 3) (hs : s < 7305) (ht : 1 ≤ t) (ht' : t ≤ 20) (hd : d < 7305) (h : post (cr_b (cr_cd s f t ms ds ls ws o d))) : wpY_isCandidate post (nI s, nI f, nI t, ms, ds, ls, ws, o, p, nI c, nI e, nI n, kn, ya, mb, dta, ex, inc, ca, da) (nI d) := by
  unfold wpY_isCandidate
  dsimp only
  unfold cr_cd at h
  have hi := cr_in hd
  have hm := cr_mo_lt hd
  have e0 := hC d hd
  refine cr_ypo hC hf hd (cr_ypo hC hf hs (nm_e ?_))
  have h1 := cr_per_r f hd
  have h2 := cr_per_r f hs
  have h3 : cr_k f ≤ 1 := by unfold cr_k; split <;> omega
  have e1 : cr_per f d + cr_k f - (cr_per f s + cr_k f) = cr_per f d - cr_per f s := by omega
  refine cr_gap (by omega) (by omega) ht ht' (fun z => ?_) (fun z => ?_)
  · have e : cr_pc s f t d = false := by
      unfold cr_pc
      simp only [Bool.and_eq_false_iff, decide_eq_false_iff_not]
      by_cases z1 : cr_per f s ≤ cr_per f d
      · exact Or.inr fun z2 => z ⟨by omega, by rw [e1]; exact z2⟩
      · exact Or.inl z1
    rw [e] at h
    exact h
  · have e : cr_pc s f t d = true := by
      unfold cr_pc
      rw [decide_eq_true (show cr_per f s ≤ cr_per f d by omega), decide_eq_true (show (cr_per f d - cr_per f s) % t = 0 from e1 ▸ z.2)]
      rfl
    rw [e, Bool.true_and] at h
    unfold cr_fm at h
    by_cases z1 : ms = 0
    · rw [decide_eq_true z1, Bool.true_or, Bool.true_and] at h
      exact br_t z1 (cr_y55 hC hf hs hd h)
    · rw [decide_eq_false z1, Bool.false_or] at h
      rw [cr_cl hd, e0.2.1, cr_ssh ms (by omega)]
      refine br_f z1 ⟨hi, cr_sel (fun k => ?_) (fun k => ?_)⟩
      · rw [k] at h; exact h
      · rw [k, Bool.true_and] at h
        exact cr_y55 hC hf hs hd h
end
end
section
/-! the series, as a pure function, and X's walk to it -/
def cr_cu (pr : Nat → Nat) (cd : Nat → Bool) : Nat → Nat
  | 0 => 0
  | d + 1 => if pr (d + 1) = pr d then cr_cu pr cd d + (if cd d then 1 else 0) else 0
theorem cr_cu_s (pr : Nat → Nat) (cd : Nat → Bool) (d : Nat) : cr_cu pr cd (d + 1) = if pr (d + 1) = pr d then cr_cu pr cd d + (if cd d then 1 else 0) else 0 := rfl
theorem cr_cu_r (pr : Nat → Nat) (cd : Nat → Bool) (d : Nat) : cr_cu pr cd d ≤ d := by
  induction d with
  | zero => exact Nat.le_refl _
  | succ d ih =>
    rw [cr_cu_s]
    split
    · split <;> omega
    · omega
def cr_ix (up : Bool) (j : Nat) : Nat := if up then j else 7304 - j
theorem cr_ix_r (up : Bool) {j : Nat} (h : j < 7305) : cr_ix up j < 7305 := by unfold cr_ix; split <;> omega
theorem cr_ix_ix (up : Bool) {j : Nat} (h : j < 7305) : cr_ix up (cr_ix up j) = j := by
  cases up
  · show 7304 - (7304 - j) = j
    omega
  · rfl
theorem cr_ix_ne (up : Bool) {i j : Nat} (hi : i < 7305) (hj : j < 7305) (h : i ≠ j) : cr_ix up i ≠ cr_ix up j := by
  intro z
  apply h
  rw [← cr_ix_ix up hi, z, cr_ix_ix up hj]
def cr_kq (up : Bool) (w : Int32) (pr : Nat → Nat) (cd : Nat → Bool) (i : Nat) : Bool := cd (cr_ix up i) && decide (nI (cr_cu (fun j => pr (cr_ix up j)) (fun j => cd (cr_ix up j)) i + 1) = w)
def cr_kp (pr : Nat → Nat) (cd : Nat → Bool) (p : Int32) (d : Nat) : Bool := if p = 0 then cd d else if p ≤ 0 then cr_kq false (-p) pr cd (cr_ix false d) else cr_kq true p pr cd d
def cr_tk (c : Nat) (st : Nat → Bool) : Nat → Nat
  | 0 => 0
  | d + 1 => cr_tk c st d + (if (decide (c = 0) || decide (cr_tk c st d < c)) && st d then 1 else 0)
def cr_sr (c : Nat) (st : Nat → Bool) (d : Nat) : Bool := (decide (c = 0) || decide (cr_tk c st d < c)) && st d
theorem cr_tk_s (c : Nat) (st : Nat → Bool) (d : Nat) : cr_tk c st (d + 1) = cr_tk c st d + (if cr_sr c st d then 1 else 0) := rfl
theorem cr_tk_r (c : Nat) (st : Nat → Bool) (d : Nat) : cr_tk c st d ≤ d := by
  induction d with
  | zero => exact Nat.le_refl _
  | succ d ih =>
    rw [cr_tk_s]
    split <;> omega
def cr_ste (s e : Nat) (kp : Nat → Bool) (d : Nat) : Bool := kp d && (decide (s ≤ d) && decide (d ≤ e))
def cr_se (s f t : Nat) (ms ds ls ws o p : Int32) (c e : Nat) : Nat → Bool := cr_sr c (cr_ste s e (cr_kp (cr_per f) (cr_cd s f t ms ds ls ws o) p))
section
variable {n s f t c e : Nat} {ms ds ls ws o p : Int32} {mfA moA sd : Nat → Int32} {post : SX → Prop}
theorem cr_xc71 {J : Int32 → Int32 → (Nat → Int32) → (Nat → Int32) → (Nat → Int32) → (Nat → Int32) → Prop} {a : Nat → Int32} {k j : Nat} {v : Bool} (hj : j < 7305) (h : J (nI (k + (if v then 1 else 0))) (nI (j + 1)) mfA moA (upd a j (cr_b v)) sd) : wX_cutToLimits_71 post J (nI k) (nI j) (cr_b v) (nI j) (nI n) (nI s) (nI f) (nI t) ms ds ls ws o p (nI c) (nI e) mfA moA a sd := by
  unfold wX_cutToLimits_71
  rw [cr_cl hj, cr_nz]
  refine ⟨cr_in hj, nm_e ⟨cr_in hj, ?_⟩⟩
  rw [pk_us]
  cases v
  · exact br_t rfl (nm_r (nI_1 j) h)
  · exact br_f (by decide) (nm_r (nI_1 k) (nm_r (nI_1 j) h))
theorem cr_xc31 {J : Int32 → Int32 → (Nat → Int32) → (Nat → Int32) → (Nat → Int32) → (Nat → Int32) → Prop} {a : Nat → Int32} {k j : Nat} {v r : Bool} {kp : Nat → Bool} (hs : s < 7305) (he : e < 7305) (hj : j < 7305) (ha : a j = cr_b (kp j)) (hv : v = (r && cr_ste s e kp j)) (h : J (nI (k + (if v then 1 else 0))) (nI (j + 1)) mfA moA (upd a j (cr_b v)) sd) : wX_cutToLimits_31 post J (nI k) (nI j) (cr_b r) (nI n) (nI s) (nI f) (nI t) ms ds ls ws o p (nI c) (nI e) mfA moA a sd := by
  unfold wX_cutToLimits_31 wX_cutToLimits_70
  rw [cr_cl hj, ha]
  unfold cr_ste at hv
  refine ⟨cr_in hj, cr_sel (fun z => ?_) (fun z => ?_)⟩
  · rw [z, Bool.false_and, Bool.and_false] at hv
    rw [hv] at h
    exact cr_xc71 (v := false) hj h
  · rw [z, Bool.true_and] at hv
    refine pk_lt j s (fun g => ?_) (fun g => pk_lt e j (fun g' => ?_) (fun g' => cr_sel (fun z' => ?_) (fun z' => ?_)))
    · rw [decide_eq_false (by omega), Bool.false_and, Bool.and_false] at hv
      rw [hv] at h
      exact cr_xc71 (v := false) hj h
    · rw [decide_eq_false (show ¬ j ≤ e by omega), Bool.and_false, Bool.and_false] at hv
      rw [hv] at h
      exact cr_xc71 (v := false) hj h
    · rw [z', Bool.false_and] at hv
      rw [hv] at h
      exact cr_xc71 (v := false) hj h
    · rw [z', decide_eq_true g, decide_eq_true g'] at hv
      rw [hv] at h
      exact cr_xc71 (v := true) hj h
theorem cr_xc4 {kp : Nat → Bool} (hs : s < 7305) (he : e < 7305) (hc : c ≤ 500) (hp : ∀ a', (∀ i, i < 7305 → a' i = cr_b (cr_sr c (cr_ste s e kp) i)) → post (nI n, nI s, nI f, nI t, ms, ds, ls, ws, o, p, nI c, nI e, mfA, moA, a', sd)) : ∀ (k j : Nat) (a : Nat → Int32), j + k = 7305 → (∀ i, i < j → a i = cr_b (cr_sr c (cr_ste s e kp) i)) → (∀ i, j ≤ i → i < 7305 → a i = cr_b (kp i)) → wX_cutToLimits_4 post (nI n) (nI s) (nI f) (nI t) ms ds ls ws o p (nI c) (nI e) (k + 1) (nI (cr_tk c (cr_ste s e kp) j)) (nI j) mfA moA a sd := by
  intro k
  induction k with
  | zero =>
    intro j a hj h1 h2
    unfold wX_cutToLimits_4
    exact br_t (nI_le (a := 7305) (by omega) (by omega)) (hp a (fun i hi => h1 i (by omega)))
  | succ k ih =>
    intro j a hj h1 h2
    have hj' : j < 7305 := by omega
    have ht := cr_tk_r c (cr_ste s e kp) j
    rw [wX_cutToLimits_4]
    unfold wX_cutToLimits_26
    refine br_f (nI_ge (b := 7305) hj' (by decide)) ?_
    have step : ∀ r : Bool, r = (decide (c = 0) || decide (cr_tk c (cr_ste s e kp) j < c)) → wX_cutToLimits_31 post (wX_cutToLimits_4 post (nI n) (nI s) (nI f) (nI t) ms ds ls ws o p (nI c) (nI e) (k + 1)) (nI (cr_tk c (cr_ste s e kp) j)) (nI j) (cr_b r) (nI n) (nI s) (nI f) (nI t) ms ds ls ws o p (nI c) (nI e) mfA moA a sd := by
      intro r hr
      refine cr_xc31 (v := cr_sr c (cr_ste s e kp) j) (kp := kp) hs he hj' (h2 j (Nat.le_refl _) hj') (by rw [hr]; rfl) ?_
      rw [← cr_tk_s]
      refine ih (j + 1) _ (by omega) (fun i hi => ?_) (fun i hi hi' => ?_)
      · by_cases z : i = j
        · rw [z, pk_us]
        · rw [pk_un z]
          exact h1 i (by omega)
      · rw [pk_un (by omega)]
        exact h2 i (by omega) hi'
    by_cases z : c = 0
    · refine br_t (by rw [z]; rfl) (step true ?_)
      rw [decide_eq_true z]; rfl
    · refine br_f (nI_ne0 (by omega) (by omega)) (pk_le c (cr_tk c (cr_ste s e kp) j) (fun g => ?_) (fun g => ?_))
      · exact step false (by rw [decide_eq_false z, decide_eq_false (by omega)]; rfl)
      · exact step true (by rw [decide_eq_true g, Bool.or_true])
theorem cr_xcut {kp : Nat → Bool} {a : Nat → Int32} (hs : s < 7305) (he : e < 7305) (hc : c ≤ 500) (ha : ∀ i, i < 7305 → a i = cr_b (kp i)) (hp : ∀ a', (∀ i, i < 7305 → a' i = cr_b (cr_sr c (cr_ste s e kp) i)) → post (nI n, nI s, nI f, nI t, ms, ds, ls, ws, o, p, nI c, nI e, mfA, moA, a', sd)) : wpX_cutToLimits post (nI n, nI s, nI f, nI t, ms, ds, ls, ws, o, p, nI c, nI e, mfA, moA, a, sd) := by
  unfold wpX_cutToLimits
  dsimp only
  exact ⟨7305 + 1, cr_xc4 hs he hc hp 7305 0 a rfl (fun i hi => absurd hi (by omega)) (fun i _ hi => ha i hi)⟩
/-! the position -/
theorem cr_xk83 {J : Int32 → Int32 → Int32 → (Nat → Int32) → (Nat → Int32) → (Nat → Int32) → (Nat → Int32) → Prop} {x1 w x3 : Int32} {a : Nat → Int32} {m j dd : Nat} {b : Bool} (hd : dd < 7305) (ha : a dd = cr_b b) (h : ∀ a', a' dd = cr_b (b && decide (nI (m + 1) = w)) → (∀ i, i ≠ dd → a' i = a i) → J x3 (nI (m + (if b then 1 else 0))) (nI (j + 1)) mfA moA a' sd) : wX_keepOneOfEachPeriod_83 post J x1 w x3 (nI m) (nI j) (nI dd) (nI n) (nI s) (nI f) (nI t) ms ds ls ws o p (nI c) (nI e) mfA moA a sd := by
  unfold wX_keepOneOfEachPeriod_83
  rw [cr_cl hd, ha]
  refine ⟨cr_in hd, cr_sel (fun z => nm_r (nI_1 j) ?_) (fun z => nm_r (nI_1 m) (br_c (fun g => ⟨cr_in hd, nm_e (nm_r (nI_1 j) ?_)⟩) (fun g => ⟨cr_in hd, nm_e (nm_r (nI_1 j) ?_)⟩)))⟩
  · rw [z] at h
    exact h a (by rw [ha, z]; rfl) (fun _ _ => rfl)
  · rw [z] at h
    exact h _ (by rw [pk_us, decide_eq_true g]; rfl) (fun i hi => pk_un hi)
  · rw [z] at h
    exact h _ (by rw [pk_us, decide_eq_false g]; rfl) (fun i hi => pk_un hi)
theorem cr_nm1 {a : Nat} (h : a < 2 ^ 31) : ¬ nI a = -1 := by
  intro z
  have h1 := nI_pos h
  rw [z] at h1
  exact h1 (by decide)
def cr_cur (pr : Nat → Nat) : Nat → Int32
  | 0 => -1
  | j + 1 => nI (pr j)
def cr_sn (pr : Nat → Nat) (cd : Nat → Bool) : Nat → Nat
  | 0 => 0
  | j + 1 => cr_cu pr cd j + (if cd j then 1 else 0)
theorem cr_xk61 {J : Int32 → Int32 → Int32 → (Nat → Int32) → (Nat → Int32) → (Nat → Int32) → (Nat → Int32) → Prop} {up : Bool} {cd : Nat → Bool} {x1 w : Int32} {a : Nat → Int32} {j : Nat} (hC : cr_CX mfA moA) (hf : f ≤ 3) (hj : j < 7305) (h : wX_keepOneOfEachPeriod_83 post J x1 w (nI (cr_per f (cr_ix up j))) (nI (cr_cu (fun j => cr_per f (cr_ix up j)) cd j)) (nI j) (nI (cr_ix up j)) (nI n) (nI s) (nI f) (nI t) ms ds ls ws o p (nI c) (nI e) mfA moA a sd) : wX_keepOneOfEachPeriod_61 post J x1 w (cr_cur (fun j => cr_per f (cr_ix up j)) j) (nI (cr_sn (fun j => cr_per f (cr_ix up j)) cd j)) (nI j) (nI (cr_ix up j)) (nI n) (nI s) (nI f) (nI t) ms ds ls ws o p (nI c) (nI e) mfA moA a sd := by
  unfold wX_keepOneOfEachPeriod_61
  have hr := cr_per_r f (cr_ix_r up hj)
  refine cr_xpo hC hf (cr_ix_r up hj) ?_
  cases j with
  | zero => exact br_f (cr_nm1 (by omega)) h
  | succ j =>
    have hr' := cr_per_r f (cr_ix_r up (show j < 7305 by omega))
    have e1 : cr_cur (fun j => cr_per f (cr_ix up j)) (j + 1) = nI (cr_per f (cr_ix up j)) := rfl
    rw [e1]
    refine pk_eq _ _ (fun g => ?_) (fun g => ?_)
    · rw [cr_cu_s, if_pos g, g] at h
      exact h
    · rw [cr_cu_s, if_neg g] at h
      exact h
theorem cr_xk38 {up : Bool} {cd : Nat → Bool} {w : Int32} (hC : cr_CX mfA moA) (hf : f ≤ 3) (hp : ∀ a', (∀ i, i < 7305 → a' (cr_ix up i) = cr_b (cr_kq up w (cr_per f) cd i)) → post (nI n, nI s, nI f, nI t, ms, ds, ls, ws, o, p, nI c, nI e, mfA, moA, a', sd)) : ∀ (k j : Nat) (a : Nat → Int32), j + k = 7305 → (∀ i, i < j → a (cr_ix up i) = cr_b (cr_kq up w (cr_per f) cd i)) → (∀ i, j ≤ i → i < 7305 → a (cr_ix up i) = cr_b (cd (cr_ix up i))) → wX_keepOneOfEachPeriod_38 post (cr_b up) w (nI n) (nI s) (nI f) (nI t) ms ds ls ws o p (nI c) (nI e) (k + 1) (cr_cur (fun j => cr_per f (cr_ix up j)) j) (nI (cr_sn (fun j => cr_per f (cr_ix up j)) (fun j => cd (cr_ix up j)) j)) (nI j) mfA moA a sd := by
  intro k
  induction k with
  | zero =>
    intro j a hj h1 h2
    unfold wX_keepOneOfEachPeriod_38
    exact br_t (nI_le (a := 7305) (by omega) (by omega)) (hp a (fun i hi => h1 i (by omega)))
  | succ k ih =>
    intro j a hj h1 h2
    have hj' : j < 7305 := by omega
    rw [wX_keepOneOfEachPeriod_38]
    refine br_f (nI_ge (b := 7305) hj' (by decide)) ?_
    have step : wX_keepOneOfEachPeriod_61 post (wX_keepOneOfEachPeriod_38 post (cr_b up) w (nI n) (nI s) (nI f) (nI t) ms ds ls ws o p (nI c) (nI e) (k + 1)) (cr_b up) w (cr_cur (fun j => cr_per f (cr_ix up j)) j) (nI (cr_sn (fun j => cr_per f (cr_ix up j)) (fun j => cd (cr_ix up j)) j)) (nI j) (nI (cr_ix up j)) (nI n) (nI s) (nI f) (nI t) ms ds ls ws o p (nI c) (nI e) mfA moA a sd := by
      refine cr_xk61 hC hf hj' (cr_xk83 (b := cd (cr_ix up j)) (cr_ix_r up hj') (h2 j (Nat.le_refl _) hj') (fun a' g1 g2 => ?_))
      refine ih (j + 1) a' (by omega) (fun i hi => ?_) (fun i hi hi' => ?_)
      · by_cases z : i = j
        · rw [z]
          exact g1
        · rw [g2 _ (cr_ix_ne up (by omega) hj' z)]
          exact h1 i (by omega)
      · rw [g2 _ (cr_ix_ne up hi' hj' (by omega))]
        exact h2 i (by omega) hi'
    cases up
    · have e1 : (7304 : Int32) - nI j = nI (cr_ix false j) := pk_sub (a := 7304) (by omega)
      rw [e1]
      exact br_t rfl step
    · exact br_f (by decide) step
theorem cr_xkeep {cd : Nat → Bool} {a : Nat → Int32} (hC : cr_CX mfA moA) (hf : f ≤ 3) (h0 : ¬ p = 0) (ha : ∀ i, i < 7305 → a i = cr_b (cd i)) (hp : ∀ a', (∀ i, i < 7305 → a' i = cr_b (cr_kp (cr_per f) cd p i)) → post (nI n, nI s, nI f, nI t, ms, ds, ls, ws, o, p, nI c, nI e, mfA, moA, a', sd)) : wpX_keepOneOfEachPeriod post (nI n, nI s, nI f, nI t, ms, ds, ls, ws, o, p, nI c, nI e, mfA, moA, a, sd) := by
  unfold wpX_keepOneOfEachPeriod
  dsimp only
  unfold wX_keepOneOfEachPeriod_12
  unfold cr_kp at hp
  by_cases z : p ≤ 0
  · refine br_t z (br_t rfl (nm_e ⟨7305 + 1, ?_⟩))
    refine cr_xk38 (up := false) (cd := cd) hC hf (fun a' g => hp a' (fun i hi => ?_)) 7305 0 a rfl (fun i hi => absurd hi (by omega)) (fun i _ hi => ha _ (cr_ix_r false hi))
    rw [if_neg h0, if_pos z]
    have := g (cr_ix false i) (cr_ix_r false hi)
    rw [cr_ix_ix false hi] at this
    exact this
  · refine br_f z (br_f (by decide) ⟨7305 + 1, ?_⟩)
    refine cr_xk38 (up := true) (cd := cd) hC hf (fun a' g => hp a' (fun i hi => ?_)) 7305 0 a rfl (fun i hi => absurd hi (by omega)) (fun i _ hi => ha _ (cr_ix_r true hi))
    rw [if_neg h0, if_neg z]
    exact g i hi
theorem cr_xb2 (hC : cr_CX mfA moA) (hf : f ≤ 3) (hs : s < 7305) (ht : 1 ≤ t) (ht' : t ≤ 20) (hc : c ≤ 500) (he : e < 7305) (hp : ∀ a', (∀ i, i < 7305 → a' i = cr_b (cr_se s f t ms ds ls ws o p c e i)) → post (nI n, nI s, nI f, nI t, ms, ds, ls, ws, o, p, nI c, nI e, mfA, moA, a', sd)) : ∀ (k j : Nat) (a : Nat → Int32), j + k = 7305 → (∀ i, i < j → a i = cr_b (cr_cd s f t ms ds ls ws o i)) → wX_buildSeries_2 post (nI n) (nI s) (nI f) (nI t) ms ds ls ws o p (nI c) (nI e) (k + 1) (nI j) mfA moA a sd := by
  intro k
  induction k with
  | zero =>
    intro j a hj h1
    have h1' : ∀ i, i < 7305 → a i = cr_b (cr_cd s f t ms ds ls ws o i) := fun i hi => h1 i (by omega)
    rw [wX_buildSeries_2]
    refine br_t (nI_le (a := 7305) (by omega) (by omega)) ?_
    unfold wX_buildSeries_37
    by_cases z : p = 0
    · refine br_t z (cr_xcut (kp := cr_kp (cr_per f) (cr_cd s f t ms ds ls ws o) p) hs he hc (fun i hi => ?_) (fun a' g => hp a' g))
      unfold cr_kp
      rw [if_pos z]
      exact h1' i hi
    · exact br_f z (cr_xkeep (cd := cr_cd s f t ms ds ls ws o) hC hf z h1' (fun a' g => cr_xcut hs he hc g (fun a'' g' => hp a'' g')))
  | succ k ih =>
    intro j a hj h1
    have hj' : j < 7305 := by omega
    rw [wX_buildSeries_2]
    refine br_f (nI_ge (b := 7305) hj' (by decide)) (cr_xcd hC hf hs ht ht' hj' ⟨cr_in hj', ?_⟩)
    rw [cr_cl hj', cr_nz]
    refine nm_e (nm_r (nI_1 j) (ih (j + 1) _ (by omega) (fun i hi => ?_)))
    by_cases z : i = j
    · rw [z, pk_us]
    · rw [pk_un z]
      exact h1 i (by omega)
theorem cr_xbuild {ser : Nat → Int32} (hC : cr_CX mfA moA) (hf : f ≤ 3) (hs : s < 7305) (ht : 1 ≤ t) (ht' : t ≤ 20) (hc : c ≤ 500) (he : e < 7305) (hp : ∀ a', (∀ i, i < 7305 → a' i = cr_b (cr_se s f t ms ds ls ws o p c e i)) → post (nI n, nI s, nI f, nI t, ms, ds, ls, ws, o, p, nI c, nI e, mfA, moA, a', sd)) : wpX_buildSeries post (nI n, nI s, nI f, nI t, ms, ds, ls, ws, o, p, nI c, nI e, mfA, moA, ser, sd) := by
  unfold wpX_buildSeries
  dsimp only
  exact ⟨7305 + 1, cr_xb2 hC hf hs ht ht' hc he hp 7305 0 ser rfl (fun i hi => absurd hi (by omega))⟩
end
end
section
/-! Y's walk to the same series and to the days of the rule -/
def cr_way (up : Bool) : Int32 := if up then -1 else 1
def cr_pos (up : Bool) : Nat → Int32
  | 0 => if up then -1 else 7305
  | j + 1 => nI (cr_ix up j)
theorem cr_wayj (up : Bool) {j : Nat} (hj : j < 7305) : nI (cr_ix up j) + cr_way up = cr_pos up j := by
  cases up
  · cases j with
    | zero => decide
    | succ j =>
      show nI (7304 - (j + 1)) + 1 = nI (7304 - j)
      rw [nI_1]
      exact congrArg nI (by omega)
  · cases j with
    | zero => decide
    | succ j => exact pk_m1 j
theorem cr_prp {p : Int32} (h0 : ¬ p ≤ 0) (h : p ≤ 10) : ∃ q, q < 10 ∧ p = nI (q + 1) := by
  obtain ⟨j, hj, e⟩ := nI_of2 (x := p) (M := 10) (n := 10) (by decide) (fun z => h0 (Int32.le_of_lt z)) h
  cases j with
  | zero => exact absurd (show p ≤ 0 by rw [e]; decide) h0
  | succ j => exact ⟨j, by omega, e⟩
theorem cr_prn {p : Int32} (h0 : ¬ p = 0) (h1 : p ≤ 0) (h : ¬ p < -10) : ∃ q, q < 10 ∧ -p = nI (q + 1) := by
  have a1 : p.toInt ≤ 0 := by
    have := Int32.le_iff_toInt_le.mp h1
    rwa [show (0 : Int32).toInt = 0 from by decide] at this
  have a2 : -10 ≤ p.toInt := by
    have h' : ¬ p.toInt < (-10 : Int32).toInt := fun z => h (Int32.lt_iff_toInt_lt.mpr z)
    rw [show (-10 : Int32).toInt = -10 from by decide] at h'
    omega
  have a3 : p.toInt ≠ 0 := fun z => h0 (Int32.toInt_inj.mp (z.trans (by decide)))
  have hy : (-p).toInt = -p.toInt := by
    rw [Int32.toInt_neg]
    exact Int.bmod_eq_of_le (by omega) (by omega)
  obtain ⟨j, hj, e⟩ := nI_of (x := -p) (by
    rw [Int32.lt_iff_toInt_lt, hy, show (0 : Int32).toInt = 0 from by decide]
    omega)
  have hz : (-p).toInt = (j : Int) := by rw [e]; exact nI_toInt hj
  cases j with
  | zero => omega
  | succ j => exact ⟨j, by omega, e⟩
def cr_EX (n : Nat) (ex inc sd : Nat → Int32) (g : Nat → Nat) (ib : Nat → Bool) : Prop := (∀ i, i < n → g i < 7305 ∧ ex i = nI (g i) ∧ inc i = cr_b (ib i) ∧ sd (g i) = (if ib i then 1 else 2)) ∧ (∀ i j, i < n → j < n → g i = g j → i = j) ∧ (∀ d, d < 7305 → (∀ i, i < n → g i ≠ d) → sd d = 0)
def cr_rl (sd : Nat → Int32) (sr : Nat → Bool) (d : Nat) : Bool := if sd d = 1 then true else if sd d = 0 then sr d else false
section
variable {n s f t c e d : Nat} {ms ds ls ws o p kn : Int32} {ya mb dta ex inc ca da : Nat → Int32} {post : Int32 → Prop} {cd : Nat → Bool}
theorem cr_y63 {m q : Nat} (hm : m < 2 ^ 30) (hq : q < 2 ^ 30) (h : post (cr_b (decide (m = q)))) : wY_has_63 post (nI q) (nI m) (nI s) (nI f) (nI t) ms ds ls ws o p (nI c) (nI e) (nI n) kn ya mb dta ex inc ca da := by
  unfold wY_has_63
  rw [nI_eq (by omega) (by omega)]
  exact cr_sb h
theorem cr_y15 {up : Bool} {P q : Nat} (hC : cr_CY ya mb dta) (hf : f ≤ 3) (hP : P < 7305) (hq : q < 2 ^ 20) (ha : ∀ i, i < 7305 → ca i = cr_b (cd i)) : ∀ (j m : Nat), j < 7305 → m + j < 2 ^ 20 → cr_per f (cr_ix up j) = P → post (cr_b (decide (m + cr_cu (fun j => cr_per f (cr_ix up j)) (fun j => cd (cr_ix up j)) j = q))) → wY_has_15 post (nI q) (cr_way up) (nI (P + cr_k f)) (nI s) (nI f) (nI t) ms ds ls ws o p (nI c) (nI e) (nI n) kn ya mb dta ex inc ca da (j + 1) (nI m) (cr_pos up j) := by
  intro j
  induction j with
  | zero =>
    intro m hj hm hper h
    rw [wY_has_15]
    refine cr_yis ?_ (br_t rfl (cr_y63 (by omega) (by omega) h))
    cases up
    · exact Or.inr (by decide)
    · exact Or.inl (by decide)
  | succ j ih =>
    intro m hj hm hper h
    have hj' : j < 7305 := by omega
    have hx := cr_ix_r up hj'
    have hr := cr_per_r f hx
    have hk : cr_k f ≤ 1 := by unfold cr_k; split <;> omega
    rw [wY_has_15]
    have e1 : cr_pos up (j + 1) = nI (cr_ix up j) := rfl
    rw [e1]
    rw [cr_cu_s] at h
    rw [hper] at h
    refine cr_yid hx (br_f (by decide) (cr_ypo hC hf hx (pk_eq (cr_per f (cr_ix up j) + cr_k f) (P + cr_k f) (fun g => ?_) (fun g => ?_))))
    · rw [if_pos (by omega)] at h
      refine pk_lt q m (fun g' => ?_) (fun g' => ⟨cr_in hx, ?_⟩)
      · refine cr_y63 (by omega) (by omega) ?_
        rw [decide_eq_false (by omega)] at h ⊢
        exact h
      · rw [cr_cl hx, ha _ hx]
        refine cr_sel (fun z => nm_r (cr_wayj up hj') (ih m hj' (by omega) (by omega) ?_)) (fun z => nm_r (nI_1 m) (nm_r (cr_wayj up hj') (ih (m + 1) hj' (by omega) (by omega) ?_)))
        · rw [z] at h
          exact h
        · rw [z] at h
          have e2 : m + 1 + cr_cu (fun j => cr_per f (cr_ix up j)) (fun j => cd (cr_ix up j)) j = m + (cr_cu (fun j => cr_per f (cr_ix up j)) (fun j => cd (cr_ix up j)) j + 1) := by omega
          rw [e2]
          exact h
    · rw [if_neg (by omega)] at h
      exact cr_y63 (by omega) (by omega) h
theorem cr_yhas {up : Bool} {q : Nat} (hC : cr_CY ya mb dta) (hf : f ≤ 3) (hd : d < 7305) (hq : q < 2 ^ 20) (ha : ∀ i, i < 7305 → ca i = cr_b (cd i)) (h : post (cr_b (decide (cr_cu (fun j => cr_per f (cr_ix up j)) (fun j => cd (cr_ix up j)) (cr_ix up d) = q)))) : wpY_has post (nI s, nI f, nI t, ms, ds, ls, ws, o, p, nI c, nI e, nI n, kn, ya, mb, dta, ex, inc, ca, da) (nI d) (nI q) (cr_way up) := by
  unfold wpY_has
  dsimp only
  have hx := cr_ix_r up hd
  have e1 := cr_ix_ix up hd
  refine cr_ypo hC hf hd (nm_r (e' := cr_pos up (cr_ix up d)) (by rw [← cr_wayj up hx, e1]) ⟨cr_ix up d + 1, ?_⟩)
  refine cr_y15 (P := cr_per f d) (m := 0) hC hf (cr_per_r f hd) hq ha (cr_ix up d) hx (by omega) (by rw [e1]) ?_
  rw [Nat.zero_add]
  exact h
theorem cr_nb (b : Bool) : narrow .boolean (.int (cr_b b)) = .int (cr_b b) := by cases b <;> rfl
theorem cr_yst (hC : cr_CY ya mb dta) (hf : f ≤ 3) (hs : s < 7305) (he : e < 7305) (hd : d < 7305) (hp1 : ¬ p < -10) (hp2 : p ≤ 10) (ha : ∀ i, i < 7305 → ca i = cr_b (cd i)) (h : post (cr_b (cr_ste s e (cr_kp (cr_per f) cd p) d))) : wpY_stays post (nI s, nI f, nI t, ms, ds, ls, ws, o, p, nI c, nI e, nI n, kn, ya, mb, dta, ex, inc, ca, da) (nI d) := by
  unfold wpY_stays
  dsimp only
  unfold cr_ste cr_kp cr_kq at h
  rw [cr_ix_ix false hd] at h
  rw [cr_cl hd, ha d hd]
  have kz : ∀ B : Bool, (if p = 0 then cd d else if p ≤ 0 then cd d && B else cr_kq true p (cr_per f) cd d) = (cd d && (if p = 0 then true else if p ≤ 0 then B else decide (nI (cr_cu (fun j => cr_per f (cr_ix true j)) (fun j => cd (cr_ix true j)) d + 1) = p))) := by
    intro B
    by_cases z : p = 0
    · rw [if_pos z, if_pos z, Bool.and_true]
    · rw [if_neg z, if_neg z]
      by_cases z' : p ≤ 0
      · rw [if_pos z', if_pos z']
      · rw [if_neg z', if_neg z']
        rfl
  have kz' := kz (decide (nI (cr_cu (fun j => cr_per f (cr_ix false j)) (fun j => cd (cr_ix false j)) (cr_ix false d) + 1) = -p))
  unfold cr_kq at kz'
  rw [kz'] at h
  refine ⟨cr_in hd, cr_sel (fun z => ?_) (fun z => ?_)⟩
  · rw [z] at h
    exact h
  · rw [z, Bool.true_and] at h
    refine pk_lt d s (fun g => ?_) (fun g => pk_le d e (fun g' => ?_) (fun g' => ?_))
    · rw [decide_eq_false (show ¬ s ≤ d by omega), Bool.false_and, Bool.and_false] at h
      exact h
    · rw [decide_eq_true g, decide_eq_true g', Bool.and_true, Bool.and_true] at h
      by_cases z1 : p = 0
      · rw [if_pos z1] at h
        exact br_t z1 h
      · rw [if_neg z1] at h
        refine br_f z1 ?_
        by_cases z2 : p ≤ 0
        · rw [if_pos z2] at h
          obtain ⟨q, hq, e1⟩ := cr_prn z1 z2 hp1
          have hb := cr_cu_r (fun j => cr_per f (cr_ix false j)) (fun j => cd (cr_ix false j)) (cr_ix false d)
          have hx := cr_ix_r false hd
          have e2 : -p - 1 = nI q := by rw [e1]; exact nI_pred q
          rw [e2]
          refine br_t z2 (cr_yhas (up := false) hC hf hd (by omega) ha ⟨cr_nb _, ?_⟩)
          rw [e1] at h
          have e3 : (nI (cr_cu (fun j => cr_per f (cr_ix false j)) (fun j => cd (cr_ix false j)) (cr_ix false d) + 1) = nI (q + 1)) ↔ cr_cu (fun j => cr_per f (cr_ix false j)) (fun j => cd (cr_ix false j)) (cr_ix false d) = q := by
            rw [nI_eq (by omega) (by omega)]
            omega
          rw [decide_eq_decide.mpr e3] at h
          exact h
        · rw [if_neg z2] at h
          obtain ⟨q, hq, e1⟩ := cr_prp z2 hp2
          have hb := cr_cu_r (fun j => cr_per f (cr_ix true j)) (fun j => cd (cr_ix true j)) (cr_ix true d)
          have hx := cr_ix_r true hd
          have e2 : p - 1 = nI q := by rw [e1]; exact nI_pred q
          rw [e2]
          refine br_f z2 (cr_yhas (up := true) hC hf hd (by omega) ha ⟨cr_nb _, ?_⟩)
          have e3 : (nI (cr_cu (fun j => cr_per f (cr_ix true j)) (fun j => cd (cr_ix true j)) d + 1) = p) ↔ cr_cu (fun j => cr_per f (cr_ix true j)) (fun j => cd (cr_ix true j)) (cr_ix true d) = q := by
            rw [e1]
            have e4 : cr_ix true d = d := rfl
            rw [e4] at hb ⊢
            rw [nI_eq (by omega) (by omega)]
            omega
          rw [decide_eq_decide.mpr e3] at h
          exact h
    · rw [decide_eq_false (show ¬ d ≤ e by omega), Bool.and_false, Bool.and_false] at h
      exact h
end
section
variable {n s f t c e : Nat} {ms ds ls ws o p kn : Int32} {ya mb dta ex inc ca sd : Nat → Int32} {post : SY → Prop}
theorem cr_y104 {g : Nat → Nat} {ib : Nat → Bool} {sr : Nat → Bool} (hn : n ≤ 12) (hE : cr_EX n ex inc sd g ib) (hp : ∀ a', (∀ i, i < 7305 → a' i = cr_b (cr_rl sd sr i)) → post (nI s, nI f, nI t, ms, ds, ls, ws, o, p, nI c, nI e, nI n, kn, ya, mb, dta, ex, inc, ca, a')) : ∀ (k j : Nat) (a : Nat → Int32), j + k = n → (∀ i, i < j → a (g i) = cr_b (ib i)) → (∀ d, d < 7305 → (∀ i, i < j → g i ≠ d) → a d = cr_b (sr d)) → wY_work_104 post (nI s) (nI f) (nI t) ms ds ls ws o p (nI c) (nI e) (nI n) kn (k + 1) (nI j) ya mb dta ex inc ca a := by
  intro k
  induction k with
  | zero =>
    intro j a hj h1 h2
    have hjn : j = n := by omega
    subst hjn
    rw [wY_work_104]
    refine br_t (nI_le (Nat.le_refl _) (by omega)) (hp a (fun d hd => ?_))
    by_cases z : ∃ i, i < j ∧ g i = d
    · obtain ⟨i, hi, rfl⟩ := z
      rw [h1 i hi]
      have := (hE.1 i hi).2.2.2
      unfold cr_rl
      rw [this]
      cases ib i <;> rfl
    · have z' : ∀ i, i < j → g i ≠ d := fun i hi w => z ⟨i, hi, w⟩
      rw [h2 d hd z']
      unfold cr_rl
      rw [hE.2.2 d hd z']
      rfl
  | succ k ih =>
    intro j a hj h1 h2
    have hj' : j < n := by omega
    obtain ⟨q1, q2, q3, q4⟩ := hE.1 j hj'
    rw [wY_work_104]
    dsimp only
    rw [nI_clamp (n := j) (by omega), q2, q3, cr_cl q1, cr_nz]
    refine br_f (nI_ge hj' (by omega)) ⟨vp_in_nI (by omega) (by decide), vp_in_nI (by omega) (by decide), cr_in q1, nm_e (nm_r (nI_1 j) (ih (j + 1) _ (by omega) (fun i hi => ?_) (fun d hd hi => ?_)))⟩
    · by_cases z : i = j
      · rw [z, pk_us]
      · rw [pk_un (fun w => z (hE.2.1 i j (by omega) hj' w))]
        exact h1 i (by omega)
    · rw [pk_un (fun w => hi j (by omega) w.symm)]
      exact h2 d hd (fun i hi' => hi i (by omega))
theorem cr_y83 {J : Int32 → Int32 → (Nat → Int32) → (Nat → Int32) → (Nat → Int32) → (Nat → Int32) → (Nat → Int32) → (Nat → Int32) → (Nat → Int32) → Prop} {a : Nat → Int32} {k j : Nat} {v : Bool} (hj : j < 7305) (h : J (nI (k + (if v then 1 else 0))) (nI (j + 1)) ya mb dta ex inc ca (upd a j (cr_b v))) : wY_work_83 post J (nI k) (nI j) (cr_b v) (nI j) (nI s) (nI f) (nI t) ms ds ls ws o p (nI c) (nI e) (nI n) kn ya mb dta ex inc ca a := by
  unfold wY_work_83
  rw [cr_cl hj, cr_nz]
  refine ⟨cr_in hj, nm_e ⟨cr_in hj, ?_⟩⟩
  rw [pk_us]
  cases v
  · exact br_t rfl (nm_r (nI_1 j) h)
  · exact br_f (by decide) (nm_r (nI_1 k) (nm_r (nI_1 j) h))
theorem cr_y43 {g : Nat → Nat} {ib : Nat → Bool} {cd : Nat → Bool} (hC : cr_CY ya mb dta) (hf : f ≤ 3) (hs : s < 7305) (he : e < 7305) (hc : c ≤ 500) (hp1 : ¬ p < -10) (hp2 : p ≤ 10) (ha : ∀ i, i < 7305 → ca i = cr_b (cd i)) (hn : n ≤ 12) (hE : cr_EX n ex inc sd g ib) (hp : ∀ a', (∀ i, i < 7305 → a' i = cr_b (cr_rl sd (cr_sr c (cr_ste s e (cr_kp (cr_per f) cd p))) i)) → post (nI s, nI f, nI t, ms, ds, ls, ws, o, p, nI c, nI e, nI n, kn, ya, mb, dta, ex, inc, ca, a')) : ∀ (k j : Nat) (a : Nat → Int32), j + k = 7305 → (∀ i, i < j → a i = cr_b (cr_sr c (cr_ste s e (cr_kp (cr_per f) cd p)) i)) → wY_work_43 post (nI s) (nI f) (nI t) ms ds ls ws o p (nI c) (nI e) (nI n) kn (k + 1) (nI (cr_tk c (cr_ste s e (cr_kp (cr_per f) cd p)) j)) (nI j) ya mb dta ex inc ca a := by
  intro k
  induction k with
  | zero =>
    intro j a hj h1
    rw [wY_work_43]
    refine br_t (nI_le (a := 7305) (by omega) (by omega)) ⟨n + 1, ?_⟩
    exact cr_y104 hn hE hp n 0 a (by omega) (fun i hi => absurd hi (by omega)) (fun d hd _ => h1 d (by omega))
  | succ k ih =>
    intro j a hj h1
    have hj' : j < 7305 := by omega
    have ht := cr_tk_r c (cr_ste s e (cr_kp (cr_per f) cd p)) j
    rw [wY_work_43]
    refine br_f (nI_ge (b := 7305) hj' (by decide)) ?_
    have next : ∀ v : Bool, v = cr_sr c (cr_ste s e (cr_kp (cr_per f) cd p)) j → wY_work_83 post (wY_work_43 post (nI s) (nI f) (nI t) ms ds ls ws o p (nI c) (nI e) (nI n) kn (k + 1)) (nI (cr_tk c (cr_ste s e (cr_kp (cr_per f) cd p)) j)) (nI j) (cr_b v) (nI j) (nI s) (nI f) (nI t) ms ds ls ws o p (nI c) (nI e) (nI n) kn ya mb dta ex inc ca a := by
      intro v hv
      refine cr_y83 hj' ?_
      rw [hv, ← cr_tk_s]
      refine ih (j + 1) _ (by omega) (fun i hi => ?_)
      by_cases z : i = j
      · rw [z, pk_us]
      · rw [pk_un z]
        exact h1 i (by omega)
    have full : decide (c = 0) = true ∨ decide (cr_tk c (cr_ste s e (cr_kp (cr_per f) cd p)) j < c) = true → wY_work_70 post (wY_work_43 post (nI s) (nI f) (nI t) ms ds ls ws o p (nI c) (nI e) (nI n) kn (k + 1)) (nI (cr_tk c (cr_ste s e (cr_kp (cr_per f) cd p)) j)) (nI j) (nI j) (nI s) (nI f) (nI t) ms ds ls ws o p (nI c) (nI e) (nI n) kn ya mb dta ex inc ca a := by
      intro hr
      have hv : cr_sr c (cr_ste s e (cr_kp (cr_per f) cd p)) j = cr_ste s e (cr_kp (cr_per f) cd p) j := by
        unfold cr_sr
        rcases hr with hr | hr
        · rw [hr, Bool.true_or, Bool.true_and]
        · rw [hr, Bool.or_true, Bool.true_and]
      unfold wY_work_70
      refine cr_yst hC hf hs he hj' hp1 hp2 ha (cr_sel (fun z => ?_) (fun z => ?_))
      · unfold wY_work_82
        exact next false (by rw [hv, z])
      · exact next true (by rw [hv, z])
    by_cases z : c = 0
    · exact br_t (by rw [z]; rfl) (full (Or.inl (decide_eq_true z)))
    · refine br_f (nI_ne0 (by omega) (by omega)) (pk_le c (cr_tk c (cr_ste s e (cr_kp (cr_per f) cd p)) j) (fun g => ?_) (fun g => ?_))
      · unfold wY_work_82
        refine next false ?_
        unfold cr_sr
        rw [decide_eq_false z, decide_eq_false (by omega)]
        rfl
      · exact full (Or.inr (decide_eq_true g))
end
section
variable {n s f t c e : Nat} {ms ds ls ws o p kn : Int32} {ya mb dta ex inc da sd : Nat → Int32} {post : SY → Prop}
theorem cr_y17 {g : Nat → Nat} {ib : Nat → Bool} (hC : cr_CY ya mb dta) (hf : f ≤ 3) (hs : s < 7305) (ht : 1 ≤ t) (ht' : t ≤ 20) (he : e < 7305) (hc : c ≤ 500) (hp1 : ¬ p < -10) (hp2 : p ≤ 10) (hn : n ≤ 12) (hE : cr_EX n ex inc sd g ib) (hp : ∀ b' a', (∀ i, i < 7305 → a' i = cr_b (cr_rl sd (cr_se s f t ms ds ls ws o p c e) i)) → post (nI s, nI f, nI t, ms, ds, ls, ws, o, p, nI c, nI e, nI n, kn, ya, mb, dta, ex, inc, b', a')) : ∀ (k j : Nat) (a : Nat → Int32), j + k = 7305 → (∀ i, i < j → a i = cr_b (cr_cd s f t ms ds ls ws o i)) → wY_work_17 post 0 (nI s) (nI f) (nI t) ms ds ls ws o p (nI c) (nI e) (nI n) kn (k + 1) (nI j) ya mb dta ex inc a da := by
  intro k
  induction k with
  | zero =>
    intro j a hj h1
    rw [wY_work_17]
    refine br_t (nI_le (a := 7305) (by omega) (by omega)) ⟨7305 + 1, ?_⟩
    exact cr_y43 (cd := cr_cd s f t ms ds ls ws o) hC hf hs he hc hp1 hp2 (fun i hi => h1 i (by omega)) hn hE (hp a) 7305 0 da rfl (fun i hi => absurd hi (by omega))
  | succ k ih =>
    intro j a hj h1
    have hj' : j < 7305 := by omega
    rw [wY_work_17]
    refine br_f (nI_ge (b := 7305) hj' (by decide)) (cr_ycd hC hf hs ht ht' hj' ⟨cr_in hj', ?_⟩)
    rw [cr_cl hj', cr_nz]
    refine nm_e (nm_r (nI_1 j) (ih (j + 1) _ (by omega) (fun i hi => ?_)))
    by_cases z : i = j
    · rw [z, pk_us]
    · rw [pk_un z]
      exact h1 i (by omega)
theorem cr_ywork {ca : Nat → Int32} {g : Nat → Nat} {ib : Nat → Bool} (hC : cr_CY ya mb dta) (hf : f ≤ 3) (hs : s < 7305) (ht : 1 ≤ t) (ht' : t ≤ 20) (he : e < 7305) (hc : c ≤ 500) (hp1 : ¬ p < -10) (hp2 : p ≤ 10) (hn : n ≤ 12) (hE : cr_EX n ex inc sd g ib) (hk : ¬ kn = 0 → ∀ i, i < 7305 → da i = cr_b (cr_rl sd (cr_se s f t ms ds ls ws o p c e) i)) (hp : ∀ k' b' a', ¬ k' = 0 → (∀ i, i < 7305 → a' i = cr_b (cr_rl sd (cr_se s f t ms ds ls ws o p c e) i)) → post (nI s, nI f, nI t, ms, ds, ls, ws, o, p, nI c, nI e, nI n, k', ya, mb, dta, ex, inc, b', a')) : wpY_work post (nI s, nI f, nI t, ms, ds, ls, ws, o, p, nI c, nI e, nI n, kn, ya, mb, dta, ex, inc, ca, da) := by
  unfold wpY_work
  dsimp only
  by_cases z : kn = 0
  · exact br_t z ⟨7305 + 1, cr_y17 hC hf hs ht ht' he hc hp1 hp2 hn hE (fun b' a' h => hp 1 b' a' (by decide) h) 7305 0 ca rfl (fun i hi => absurd hi (by omega))⟩
  · exact br_f z (hp kn ca da z (hk z))
end
end
section
/-! the relation, and the constructors -/
def cr_OK (n s f t c e : Nat) (p : Int32) : Prop := f ≤ 3 ∧ s < 7305 ∧ 1 ≤ t ∧ t ≤ 20 ∧ c ≤ 500 ∧ e < 7305 ∧ n ≤ 12 ∧ ¬ p < -10 ∧ p ≤ 10
/-- both hold the same rule; X's series and, where Y knows them, Y's days are what the pure functions say -/
def i_Rel (_ : Nat) (u : SX) (v : SY) : Prop := ∃ (n s f t c e : Nat) (ms ds ls ws o p kn : Int32) (mfA moA ser sd ya mb dta ex inc ca da : Nat → Int32) (g : Nat → Nat) (ib : Nat → Bool), u = (nI n, nI s, nI f, nI t, ms, ds, ls, ws, o, p, nI c, nI e, mfA, moA, ser, sd) ∧ v = (nI s, nI f, nI t, ms, ds, ls, ws, o, p, nI c, nI e, nI n, kn, ya, mb, dta, ex, inc, ca, da) ∧ cr_CX mfA moA ∧ cr_CY ya mb dta ∧ cr_OK n s f t c e p ∧ cr_EX n ex inc sd g ib ∧ (∀ i, i < 7305 → ser i = cr_b (cr_se s f t ms ds ls ws o p c e i)) ∧ (¬ kn = 0 → ∀ i, i < 7305 → da i = cr_b (cr_rl sd (cr_se s f t ms ds ls ws o p c e) i))
theorem i_up {k : Nat} {u : SX} {v : SY} (h : i_Rel k u v) : i_Rel (k + 4) u v := h
section
variable {n s f t c e : Nat} {ms ds ls ws o p kn : Int32} {mfA moA ser sd ya mb dta ex inc ca da : Nat → Int32} {g : Nat → Nat} {ib : Nat → Bool}
theorem cr_mk {k : Nat} (h1 : cr_CX mfA moA) (h2 : cr_CY ya mb dta) (h3 : cr_OK n s f t c e p) (h4 : cr_EX n ex inc sd g ib) (h5 : ∀ i, i < 7305 → ser i = cr_b (cr_se s f t ms ds ls ws o p c e i)) (h6 : ¬ kn = 0 → ∀ i, i < 7305 → da i = cr_b (cr_rl sd (cr_se s f t ms ds ls ws o p c e) i)) : i_Rel k (nI n, nI s, nI f, nI t, ms, ds, ls, ws, o, p, nI c, nI e, mfA, moA, ser, sd) (nI s, nI f, nI t, ms, ds, ls, ws, o, p, nI c, nI e, nI n, kn, ya, mb, dta, ex, inc, ca, da) :=
  ⟨n, s, f, t, c, e, ms, ds, ls, ws, o, p, kn, mfA, moA, ser, sd, ya, mb, dta, ex, inc, ca, da, g, ib, rfl, rfl, h1, h2, h3, h4, h5, h6⟩
theorem cr_mk0 {k : Nat} (h1 : cr_CX mfA moA) (h2 : cr_CY ya mb dta) (h3 : cr_OK n s f t c e p) (h4 : cr_EX n ex inc sd g ib) (h5 : ∀ i, i < 7305 → ser i = cr_b (cr_se s f t ms ds ls ws o p c e i)) : i_Rel k (nI n, nI s, nI f, nI t, ms, ds, ls, ws, o, p, nI c, nI e, mfA, moA, ser, sd) (nI s, nI f, nI t, ms, ds, ls, ws, o, p, nI c, nI e, nI n, 0, ya, mb, dta, ex, inc, ca, da) := cr_mk h1 h2 h3 h4 h5 (fun z => absurd rfl z)
end
section
variable {F1 F2 F3 F4 F5 F6 F7 F8 F9 F10 F11 F12 : Int32} {ser sd : Nat → Int32} {post : SX → Prop}
def cr_pm : Nat → Nat
  | 0 => 0
  | j + 1 => cr_mo j
theorem cr_pm_r {j : Nat} (h : j ≤ 7305) : cr_pm j < 240 := by
  cases j with
  | zero => decide
  | succ j => exact cr_mo_lt (by omega)
theorem cr_pm_s (j : Nat) : cr_mo j = if j = cr_mf (cr_pm j + 1) then cr_pm j + 1 else cr_pm j := by
  cases j with
  | zero => decide
  | succ j => rfl
theorem cr_xl38 {mfA : Nat → Int32} (hm : ∀ i, i ≤ 240 → mfA i = nI (cr_mf i)) (hp : ∀ a', cr_CX mfA a' → post (F1, F2, F3, F4, F5, F6, F7, F8, F9, F10, F11, F12, mfA, a', ser, sd)) : ∀ (k j : Nat) (a : Nat → Int32), j + k = 7305 → (∀ i, i < j → a i = nI (cr_mo i)) → wX_layOutMonths_38 post F1 F2 F3 F4 F5 F6 F7 F8 F9 F10 F11 F12 (k + 1) (nI (cr_pm j)) (nI j) mfA a ser sd := by
  intro k
  induction k with
  | zero =>
    intro j a hj h1
    rw [wX_layOutMonths_38]
    exact br_t (nI_le (a := 7305) (by omega) (by omega)) (hp a ⟨hm, fun d hd => h1 d (by omega)⟩)
  | succ k ih =>
    intro j a hj h1
    have hj' : j < 7305 := by omega
    have hr := cr_pm_r (show j ≤ 7305 by omega)
    have hg := cr_mf_le (show cr_pm j + 1 ≤ 240 by omega)
    have hs := cr_pm_s j
    rw [wX_layOutMonths_38]
    dsimp only
    rw [nI_1 (cr_pm j), nI_clamp (n := cr_pm j + 1) (by omega), hm _ (by omega), cr_cl hj']
    have next : ∀ m, m = cr_mo j → wX_layOutMonths_38 post F1 F2 F3 F4 F5 F6 F7 F8 F9 F10 F11 F12 (k + 1) (nI m) (nI (j + 1)) mfA (upd a j (nI m)) ser sd := by
      intro m hm'
      subst hm'
      refine ih (j + 1) _ (by omega) (fun i hi => ?_)
      by_cases z : i = j
      · rw [z, pk_us]
      · rw [pk_un z]
        exact h1 i (by omega)
    refine br_f (nI_ge (b := 7305) hj' (by decide)) ⟨vp_in_nI (by omega) (by decide), pk_eq j (cr_mf (cr_pm j + 1)) (fun z => nm_e ⟨cr_in hj', nm_e (nm_r (nI_1 j) (next _ ?_))⟩) (fun z => ⟨cr_in hj', nm_e (nm_r (nI_1 j) (next _ ?_))⟩)⟩
    · rw [hs, if_pos z]
    · rw [hs, if_neg z]
theorem cr_xl2 {moA : Nat → Int32} (hp : ∀ a' b', cr_CX a' b' → post (F1, F2, F3, F4, F5, F6, F7, F8, F9, F10, F11, F12, a', b', ser, sd)) : ∀ (k j : Nat) (a : Nat → Int32), j + k = 240 → (∀ i, i ≤ j → a i = nI (cr_mf i)) → wX_layOutMonths_2 post F1 F2 F3 F4 F5 F6 F7 F8 F9 F10 F11 F12 (k + 1) (nI j) a moA ser sd := by
  intro k
  induction k with
  | zero =>
    intro j a hj h1
    rw [wX_layOutMonths_2]
    refine br_t (nI_le (a := 240) (by omega) (by omega)) ⟨7305 + 1, ?_⟩
    exact cr_xl38 (fun i hi => h1 i (by omega)) (fun b' hb => hp a b' hb) 7305 0 moA rfl (fun i hi => absurd hi (by omega))
  | succ k ih =>
    intro j a hj h1
    have hj' : j < 240 := by omega
    rw [wX_layOutMonths_2]
    dsimp only
    rw [nI_1 j, nI_clamp (n := j) (by omega), nI_clamp (n := j + 1) (by omega), h1 j (Nat.le_refl _)]
    refine br_f (nI_ge (b := 240) hj' (by decide)) ⟨vp_in_nI (by omega) (by decide), cr_xml (by omega) ⟨vp_in_nI (by omega) (by decide), nm_e (nm_e (ih (j + 1) _ (by omega) (fun i hi => ?_)))⟩⟩
    by_cases z : i = j + 1
    · rw [z, pk_us, nI_add, cr_mf_s]
    · rw [pk_un z]
      exact h1 i (by omega)
theorem cr_xrs {mfA moA : Nat → Int32} (hp : ∀ a', (∀ i, i < 7305 → a' i = 0) → post (0, F2, F3, F4, F5, F6, F7, F8, F9, F10, F11, F12, mfA, moA, ser, a')) : ∀ (k j : Nat) (a : Nat → Int32), j + k = 7305 → (∀ i, i < j → a i = 0) → wX_resetRule_59 post F1 F2 F3 F4 F5 F6 F7 F8 F9 F10 F11 F12 (k + 1) (nI j) mfA moA ser a := by
  intro k
  induction k with
  | zero =>
    intro j a hj h1
    rw [wX_resetRule_59]
    exact br_t (nI_le (a := 7305) (by omega) (by omega)) (hp a (fun d hd => h1 d (by omega)))
  | succ k ih =>
    intro j a hj h1
    have hj' : j < 7305 := by omega
    rw [wX_resetRule_59]
    dsimp only
    rw [cr_cl hj']
    refine br_f (nI_ge (b := 7305) hj' (by decide)) ⟨cr_in hj', nm_e (nm_r (nI_1 j) (ih (j + 1) _ (by omega) (fun i hi => ?_)))⟩
    by_cases z : i = j
    · rw [z, pk_us]
      rfl
    · rw [pk_un z]
      exact h1 i (by omega)
/-- the reset rule, its series built: X's state at the start and after clear -/
theorem cr_xreset {mfA moA : Nat → Int32} (hC : cr_CX mfA moA) (hp : ∀ a' b', (∀ i, i < 7305 → a' i = cr_b (cr_se 0 0 1 0 0 0 0 0 0 0 7304 i)) → (∀ i, i < 7305 → b' i = 0) → post (0, 0, 0, 1, 0, 0, 0, 0, 0, 0, 0, 7304, mfA, moA, a', b')) : wpX_resetRule (fun u => wpX_buildSeries post u) (F1, F2, F3, F4, F5, F6, F7, F8, F9, F10, F11, F12, mfA, moA, ser, sd) := by
  unfold wpX_resetRule
  dsimp only
  refine ⟨7305 + 1, cr_xrs (fun b' hb => ?_) 7305 0 sd rfl (fun i hi => absurd hi (by omega))⟩
  exact cr_xbuild (n := 0) (s := 0) (f := 0) (t := 1) (c := 0) (e := 7304) hC (by decide) (by decide) (by decide) (by decide) (by decide) (by decide) (fun a' ha => hp a' b' ha hb)
theorem cr_EX0 {ex inc : Nat → Int32} {g : Nat → Nat} {ib : Nat → Bool} (h : ∀ i, i < 7305 → sd i = 0) : cr_EX 0 ex inc sd g ib :=
  ⟨fun i hi => absurd hi (by omega), fun i j hi _ _ => absurd hi (by omega), fun d hd _ => h d hd⟩
end
section
variable {G1 G2 G3 G4 G5 G6 G7 G8 G9 G10 G11 G12 G13 : Int32} {ex inc ca da : Nat → Int32} {post : SY → Prop}
theorem cr_yi86 (hp : ∀ ya mb dta, cr_CY ya mb dta → post (G1, G2, G3, G4, G5, G6, G7, G8, G9, G10, G11, G12, G13, ya, mb, dta, ex, inc, ca, da)) : ∀ (k j : Nat) (ya mb dta : Nat → Int32), j + k = 7305 → (∀ d, d < j → ya d = nI (cr_mo d / 12) ∧ mb d = nI (cr_mo d % 12 + 1) ∧ dta d = nI (cr_dt d)) → wY_init_86 post G1 G2 G3 G4 G5 G6 G7 G8 G9 G10 G11 G12 G13 (k + 1) (nI (cr_mo j / 12)) (nI (cr_mo j % 12 + 1)) (nI (cr_dt j)) (nI j) ya mb dta ex inc ca da := by
  intro k
  induction k with
  | zero =>
    intro j ya mb dta hj h1
    rw [wY_init_86]
    exact br_t (nI_le (a := 7305) (by omega) (by omega)) (hp ya mb dta (fun d hd => h1 d (by omega)))
  | succ k ih =>
    intro j ya mb dta hj h1
    have hj' : j < 7305 := by omega
    have hm := cr_mo_lt hj'
    have hi := cr_mo_in j
    have hl := cr_mf_s (cr_mo j)
    have hlr := cr_ml_r (cr_mo j)
    have hdr := cr_dt_r j
    have hs := cr_mo_s j
    have e1 : cr_dt j = j - cr_mf (cr_mo j) + 1 := rfl
    have e2 : cr_dt (j + 1) = j + 1 - cr_mf (cr_mo (j + 1)) + 1 := rfl
    rw [wY_init_86]
    dsimp only
    rw [cr_cl hj', nI_1 (cr_dt j)]
    refine br_f (nI_ge (b := 7305) hj' (by decide)) ⟨cr_in hj', nm_e ⟨cr_in hj', nm_e ⟨cr_in hj', nm_e (nm_e (cr_yle (i := cr_mo j) ?_ (by omega)))⟩⟩⟩
    have next : ∀ a b c' : Nat, a = cr_mo (j + 1) / 12 → b = cr_mo (j + 1) % 12 + 1 → c' = cr_dt (j + 1) → wY_init_86 post G1 G2 G3 G4 G5 G6 G7 G8 G9 G10 G11 G12 G13 (k + 1) (nI a) (nI b) (nI c') (nI (j + 1)) (upd ya j (nI (cr_mo j / 12))) (upd mb j (nI (cr_mo j % 12 + 1))) (upd dta j (nI (cr_dt j))) ex inc ca da := by
      intro a b c' ha hb hc
      subst ha hb hc
      refine ih (j + 1) _ _ _ (by omega) (fun i hi => ?_)
      by_cases z : i = j
      · rw [z, pk_us, pk_us, pk_us]
        exact ⟨rfl, rfl, rfl⟩
      · rw [pk_un z, pk_un z, pk_un z]
        exact h1 i (by omega)
    unfold wY_init_136
    refine pk_le (cr_dt j + 1) (cr_ml (cr_mo j)) (fun z => ?_) (fun z => nm_r (nI_1 _) ?_)
    · have e3 : cr_mo (j + 1) = cr_mo j := by rw [hs, if_neg (by omega)]
      rw [e3] at e2 next
      exact br_t (nI_le (b := 12) (by omega) (by decide)) (nm_r (nI_1 j) (next _ _ _ rfl rfl (by omega)))
    · have e3 : cr_mo (j + 1) = cr_mo j + 1 := by rw [hs, if_pos (by omega)]
      rw [e3] at e2 next
      refine pk_le (cr_mo j % 12 + 1 + 1) 12 (fun w => nm_r (nI_1 j) (next (cr_mo j / 12) (cr_mo j % 12 + 1 + 1) 1 (by omega) (by omega) (by omega))) (fun w => nm_r (nI_1 _) (nm_r (nI_1 j) (next (cr_mo j / 12 + 1) 1 1 (by omega) (by omega) (by omega))))
end
theorem cr_OK0 : cr_OK 0 0 0 1 0 7304 0 := ⟨by decide, by decide, by decide, by decide, by decide, by decide, by decide, by decide, by decide⟩
theorem i_vc0 : wpX_init (fun u => wpY_init (fun v => i_Rel 0 u v)) := by
  unfold wpX_init wpX_layOutMonths
  dsimp only
  refine ⟨240 + 1, cr_xl2 (fun a b hC => ?_) 240 0 _ rfl (fun i hi => ?_)⟩
  · refine cr_xreset hC (fun a' b' ha hb => ?_)
    unfold wpY_init
    refine ⟨7305 + 1, cr_yi86 (fun ya mb dta hD => ?_) 7305 0 _ _ _ rfl (fun i hi => absurd hi (by omega))⟩
    exact cr_mk0 (n := 0) (s := 0) (f := 0) (t := 1) (c := 0) (e := 7304) (ms := 0) (ds := 0) (ls := 0) (ws := 0) (o := 0) (p := 0) (g := fun _ => 0) (ib := fun _ => true) hC hD cr_OK0 (cr_EX0 hb) ha
  · rw [show i = 0 by omega]
    rfl
end
section
/-! the calls that set -/
section
variable {post : Int32 → Prop} {d : Nat}
theorem cr_xid (hd : d < 7305) (h : post 1) : wpX_isDay post (nI d) := by
  unfold wpX_isDay
  exact br_f (nI_pos (by omega)) (br_f (nI_nlt (a := 7304) (b := d) (by omega) (by decide)) h)
theorem cr_xis {x : Int32} (hx : x < 0 ∨ nI 7305 ≤ x) (h : post 0) : wpX_isDay post x := by
  unfold wpX_isDay
  by_cases z : x < 0
  · exact br_t z h
  · obtain ⟨j, hj, rfl⟩ := nI_of z
    rcases hx with hx | hx
    · exact absurd hx z
    · rw [nI_leI (by decide) hj] at hx
      exact br_f z (br_t (nI_lt (a := 7304) (by omega) hj) h)
end
theorem cr_cb (x : Int32) : ∀ (k j : Nat) (acc : Int32), j + k = 32 → ∃ r : Int32, (∀ post : Int32 → Prop, post r → wX_countBits_4 post x (k + 1) acc (nI j)) ∧ (∀ (post : Int32 → Prop) (y1 y2 y3 y4 y5 y6 y7 y8 y9 y10 y11 y12 y13 : Int32) (y14 y15 y16 y17 y18 y19 y20 : Nat → Int32), post r → wY_ones_4 post x y1 y2 y3 y4 y5 y6 y7 y8 y9 y10 y11 y12 y13 y14 y15 y16 y17 y18 y19 y20 (k + 1) acc (nI j)) := by
  intro k
  induction k with
  | zero =>
    intro j acc hj
    have h : (32 : Int32) ≤ nI j := nI_le (a := 32) (by omega) (by omega)
    refine ⟨acc, fun post hp => ?_, fun post y1 y2 y3 y4 y5 y6 y7 y8 y9 y10 y11 y12 y13 y14 y15 y16 y17 y18 y19 y20 hp => ?_⟩
    · rw [wX_countBits_4]
      exact br_t h hp
    · rw [wY_ones_4]
      exact br_t h hp
  | succ k ih =>
    intro j acc hj
    have h : ¬ (32 : Int32) ≤ nI j := nI_ge (b := 32) (by omega) (by decide)
    obtain ⟨r, hX, hY⟩ := ih (j + 1) (acc + cr_b (bt x j)) (by omega)
    refine ⟨r, fun post hp => ?_, fun post y1 y2 y3 y4 y5 y6 y7 y8 y9 y10 y11 y12 y13 y14 y15 y16 y17 y18 y19 y20 hp => ?_⟩
    · rw [wX_countBits_4]
      have h1 := hX post hp
      refine br_f h (cr_hb x (by omega) (cr_sel (fun z => ?_) (fun z => ?_)))
      · rw [z] at h1
        refine nm_r (nI_1 j) ?_
        have e : acc + cr_b false = acc := Int32.add_zero acc
        rw [e] at h1
        exact h1
      · rw [z] at h1
        exact nm_e (nm_r (nI_1 j) h1)
    · rw [wY_ones_4]
      dsimp only
      rw [cr_ush x (by omega)]
      exact br_f h (nm_e (nm_r (nI_1 j) (hY post y1 y2 y3 y4 y5 y6 y7 y8 y9 y10 y11 y12 y13 y14 y15 y16 y17 y18 y19 y20 hp)))
theorem cr_bits (x : Int32) : ∃ r : Int32, (∀ post : Int32 → Prop, post r → wpX_countBits post x) ∧ (∀ (post : Int32 → Prop) (v : SY), post r → wpY_ones post v x) := by
  obtain ⟨r, hX, hY⟩ := cr_cb x 32 0 0 rfl
  refine ⟨r, fun post hp => ⟨32 + 1, hX post hp⟩, fun post v hp => ?_⟩
  obtain ⟨y1, y2, y3, y4, y5, y6, y7, y8, y9, y10, y11, y12, y13, y14, y15, y16, y17, y18, y19, y20⟩ := v
  exact ⟨32 + 1, hY post y1 y2 y3 y4 y5 y6 y7 y8 y9 y10 y11 y12 y13 y14 y15 y16 y17 y18 y19 y20 hp⟩
theorem i_vc_start {k : Nat} {u : SX} {v : SY} (I : i_Rel k u v) (hk : k + 4 ≤ 2048) (v1 : Int32) : wpX_start (fun r u' => wpY_start (fun r' v' => r' = r ∧ i_Rel (k + 4) u' v') v v1) u v1 := by
  have I' := I
  obtain ⟨n, s, f, t, c, e, ms, ds, ls, ws, o, p, kn, mfA, moA, ser, sd, ya, mb, dta, ex, inc, ca, da, g, ib, rfl, rfl, hC, hD, ⟨o1, o2, o3, o4, o5, o6, o7, o8, o9⟩, hE, hS, hK⟩ := I
  unfold wpX_start
  dsimp only
  have bad : v1 < 0 ∨ nI 7305 ≤ v1 → wpX_start (fun r u' => wpY_start (fun r' v' => r' = r ∧ i_Rel (k + 4) u' v') (nI s, nI f, nI t, ms, ds, ls, ws, o, p, nI c, nI e, nI n, kn, ya, mb, dta, ex, inc, ca, da) v1) (nI n, nI s, nI f, nI t, ms, ds, ls, ws, o, p, nI c, nI e, mfA, moA, ser, sd) v1 := by
    intro hx
    unfold wpX_start wpY_start
    dsimp only
    exact cr_xis hx (br_t rfl (cr_yis hx (br_t rfl ⟨rfl, I'⟩)))
  rcases pk_ix v1 (n := 7305) (by decide) with hx | hx | ⟨j, hj, rfl⟩
  · exact bad (Or.inl hx)
  · exact bad (Or.inr hx)
  · refine cr_xid hj (br_f (by decide) (cr_xbuild (s := j) hC o1 hj o3 o4 o5 o6 (fun a' ha => ?_)))
    dsimp only
    refine cr_xwd hj ?_
    unfold wpY_start
    dsimp only
    exact cr_yid hj (br_f (by decide) (cr_ywd hj ⟨rfl, cr_mk0 (s := j) hC hD ⟨o1, hj, o3, o4, o5, o6, o7, o8, o9⟩ hE ha⟩))
theorem i_vc_frequency {k : Nat} {u : SX} {v : SY} (I : i_Rel k u v) (hk : k + 4 ≤ 2048) (v1 : Int32) (v2 : Int32) : wpX_frequency (fun r u' => wpY_frequency (fun r' v' => r' = r ∧ i_Rel (k + 4) u' v') v v1 v2) u v1 v2 := by
  have I' := I
  obtain ⟨n, s, f, t, c, e, ms, ds, ls, ws, o, p, kn, mfA, moA, ser, sd, ya, mb, dta, ex, inc, ca, da, g, ib, rfl, rfl, hC, hD, ⟨o1, o2, o3, o4, o5, o6, o7, o8, o9⟩, hE, hS, hK⟩ := I
  unfold wpX_frequency wpY_frequency
  dsimp only
  by_cases z1 : v1 < 0
  · exact br_t z1 (br_t z1 ⟨rfl, I'⟩)
  refine br_f z1 ?_
  by_cases z2 : 3 < v1
  · exact br_t z2 (br_f z1 (br_t z2 ⟨rfl, I'⟩))
  refine br_f z2 ?_
  by_cases z3 : v2 < 1
  · exact br_t z3 (br_f z1 (br_f z2 (br_t z3 ⟨rfl, I'⟩)))
  refine br_f z3 ?_
  by_cases z4 : v2 ≤ 20
  · obtain ⟨f', hf', rfl⟩ := nI_of2 (x := v1) (M := 3) (n := 3) (by decide) z1 (Int32.not_lt.mp z2)
    have z5 : ¬ v2 < 0 := fun z => z3 (Int32.lt_trans z (by decide))
    obtain ⟨t', ht', rfl⟩ := nI_of2 (x := v2) (M := 20) (n := 20) (by decide) z5 z4
    have ht1 : 1 ≤ t' := by
      cases t' with
      | zero => exact absurd (show nI 0 < 1 by decide) z3
      | succ t' => omega
    refine br_t z4 (cr_xbuild (f := f') (t := t') hC hf' o2 ht1 ht' o5 o6 (fun a' ha => ?_))
    exact br_f z1 (br_f z2 (br_f z3 (br_t z4 ⟨rfl, cr_mk0 (f := f') (t := t') hC hD ⟨hf', o2, ht1, ht', o5, o6, o7, o8, o9⟩ hE ha⟩)))
  · exact br_f z4 (br_f z1 (br_f z2 (br_f z3 (br_f z4 ⟨rfl, I'⟩))))
theorem i_vc_months {k : Nat} {u : SX} {v : SY} (I : i_Rel k u v) (hk : k + 4 ≤ 2048) (v1 : Int32) : wpX_months (fun r u' => wpY_months (fun r' v' => r' = r ∧ i_Rel (k + 4) u' v') v v1) u v1 := by
  obtain ⟨n, s, f, t, c, e, ms, ds, ls, ws, o, p, kn, mfA, moA, ser, sd, ya, mb, dta, ex, inc, ca, da, g, ib, rfl, rfl, hC, hD, ⟨o1, o2, o3, o4, o5, o6, o7, o8, o9⟩, hE, hS, hK⟩ := I
  unfold wpX_months wpY_months
  dsimp only
  refine nm_e (cr_xbuild hC o1 o2 o3 o4 o5 o6 (fun a' ha => ?_))
  dsimp only
  obtain ⟨r, hX, hY⟩ := cr_bits (v1 &&& 8190)
  exact hX _ (nm_e (hY _ _ ⟨rfl, cr_mk0 hC hD ⟨o1, o2, o3, o4, o5, o6, o7, o8, o9⟩ hE ha⟩))
theorem i_vc_monthDays {k : Nat} {u : SX} {v : SY} (I : i_Rel k u v) (hk : k + 4 ≤ 2048) (v1 : Int32) (v2 : Int32) : wpX_monthDays (fun r u' => wpY_monthDays (fun r' v' => r' = r ∧ i_Rel (k + 4) u' v') v v1 v2) u v1 v2 := by
  obtain ⟨n, s, f, t, c, e, ms, ds, ls, ws, o, p, kn, mfA, moA, ser, sd, ya, mb, dta, ex, inc, ca, da, g, ib, rfl, rfl, hC, hD, ⟨o1, o2, o3, o4, o5, o6, o7, o8, o9⟩, hE, hS, hK⟩ := I
  unfold wpX_monthDays wpY_monthDays
  dsimp only
  refine nm_e (nm_e (cr_xbuild hC o1 o2 o3 o4 o5 o6 (fun a' ha => ?_)))
  dsimp only
  obtain ⟨r, hX, hY⟩ := cr_bits (v1 &&& (-2))
  obtain ⟨r2, hX2, hY2⟩ := cr_bits (v2 &&& (-2))
  exact hX _ (hX2 _ (nm_e (nm_e (hY _ _ (hY2 _ _ ⟨rfl, cr_mk0 hC hD ⟨o1, o2, o3, o4, o5, o6, o7, o8, o9⟩ hE ha⟩)))))
theorem i_vc_weekDays {k : Nat} {u : SX} {v : SY} (I : i_Rel k u v) (hk : k + 4 ≤ 2048) (v1 : Int32) (v2 : Int32) : wpX_weekDays (fun r u' => wpY_weekDays (fun r' v' => r' = r ∧ i_Rel (k + 4) u' v') v v1 v2) u v1 v2 := by
  have I' := I
  obtain ⟨n, s, f, t, c, e, ms, ds, ls, ws, o, p, kn, mfA, moA, ser, sd, ya, mb, dta, ex, inc, ca, da, g, ib, rfl, rfl, hC, hD, ⟨o1, o2, o3, o4, o5, o6, o7, o8, o9⟩, hE, hS, hK⟩ := I
  unfold wpX_weekDays wpY_weekDays
  dsimp only
  by_cases z1 : v2 < (-5)
  · exact br_t z1 (br_t z1 ⟨rfl, I'⟩)
  refine br_f z1 ?_
  by_cases z2 : v2 ≤ 5
  · refine br_t z2 (nm_e (cr_xbuild hC o1 o2 o3 o4 o5 o6 (fun a' ha => ?_)))
    dsimp only
    obtain ⟨r, hX, hY⟩ := cr_bits (v1 &&& 127)
    exact hX _ (br_f z1 (br_t z2 (nm_e (hY _ _ ⟨rfl, cr_mk0 hC hD ⟨o1, o2, o3, o4, o5, o6, o7, o8, o9⟩ hE ha⟩))))
  · exact br_f z2 (br_f z1 (br_f z2 ⟨rfl, I'⟩))
theorem i_vc_position {k : Nat} {u : SX} {v : SY} (I : i_Rel k u v) (hk : k + 4 ≤ 2048) (v1 : Int32) : wpX_position (fun r u' => wpY_position (fun r' v' => r' = r ∧ i_Rel (k + 4) u' v') v v1) u v1 := by
  have I' := I
  obtain ⟨n, s, f, t, c, e, ms, ds, ls, ws, o, p, kn, mfA, moA, ser, sd, ya, mb, dta, ex, inc, ca, da, g, ib, rfl, rfl, hC, hD, ⟨o1, o2, o3, o4, o5, o6, o7, o8, o9⟩, hE, hS, hK⟩ := I
  unfold wpX_position wpY_position
  dsimp only
  by_cases z1 : v1 < (-10)
  · exact br_t z1 (br_t z1 ⟨rfl, I'⟩)
  refine br_f z1 ?_
  by_cases z2 : v1 ≤ 10
  · refine br_t z2 (cr_xbuild hC o1 o2 o3 o4 o5 o6 (fun a' ha => ?_))
    exact br_f z1 (br_t z2 ⟨rfl, cr_mk0 hC hD ⟨o1, o2, o3, o4, o5, o6, o7, z1, z2⟩ hE ha⟩)
  · exact br_f z2 (br_f z1 (br_f z2 ⟨rfl, I'⟩))
theorem i_vc_limit {k : Nat} {u : SX} {v : SY} (I : i_Rel k u v) (hk : k + 4 ≤ 2048) (v1 : Int32) (v2 : Int32) : wpX_limit (fun r u' => wpY_limit (fun r' v' => r' = r ∧ i_Rel (k + 4) u' v') v v1 v2) u v1 v2 := by
  have I' := I
  obtain ⟨n, s, f, t, c, e, ms, ds, ls, ws, o, p, kn, mfA, moA, ser, sd, ya, mb, dta, ex, inc, ca, da, g, ib, rfl, rfl, hC, hD, ⟨o1, o2, o3, o4, o5, o6, o7, o8, o9⟩, hE, hS, hK⟩ := I
  unfold wpX_limit wpY_limit
  dsimp only
  by_cases z1 : v1 < 0
  · exact br_t z1 (br_t z1 ⟨rfl, I'⟩)
  refine br_f z1 ?_
  by_cases z2 : v1 ≤ 500
  · refine br_t z2 ?_
    rcases pk_ix v2 (n := 7305) (by decide) with hx | hx | ⟨j, hj, rfl⟩
    · exact cr_xis (Or.inl hx) (br_t rfl (br_f z1 (br_t z2 (cr_yis (Or.inl hx) (br_t rfl ⟨rfl, I'⟩)))))
    · exact cr_xis (Or.inr hx) (br_t rfl (br_f z1 (br_t z2 (cr_yis (Or.inr hx) (br_t rfl ⟨rfl, I'⟩)))))
    · obtain ⟨c', hc', rfl⟩ := nI_of2 (x := v1) (M := 500) (n := 500) (by decide) z1 z2
      refine cr_xid hj (br_f (by decide) (cr_xbuild (c := c') (e := j) hC o1 o2 o3 o4 hc' hj (fun a' ha => ?_)))
      exact br_f z1 (br_t z2 (cr_yid hj (br_f (by decide) ⟨rfl, cr_mk0 (c := c') (e := j) hC hD ⟨o1, o2, o3, o4, hc', hj, o7, o8, o9⟩ hE ha⟩)))
  · exact br_f z2 (br_f z1 (br_f z2 ⟨rfl, I'⟩))
theorem i_vc_clear {k : Nat} {u : SX} {v : SY} (I : i_Rel k u v) (hk : k + 4 ≤ 2048) : wpX_clear (fun u' => wpY_clear (fun v' => i_Rel (k + 4) u' v') v) u := by
  obtain ⟨n, s, f, t, c, e, ms, ds, ls, ws, o, p, kn, mfA, moA, ser, sd, ya, mb, dta, ex, inc, ca, da, g, ib, rfl, rfl, hC, hD, ⟨o1, o2, o3, o4, o5, o6, o7, o8, o9⟩, hE, hS, hK⟩ := I
  unfold wpX_clear
  dsimp only
  refine cr_xreset hC (fun a' b' ha hb => ?_)
  unfold wpY_clear
  dsimp only
  exact cr_mk0 (n := 0) (s := 0) (f := 0) (t := 1) (c := 0) (e := 7304) (ms := 0) (ds := 0) (ls := 0) (ws := 0) (o := 0) (p := 0) (g := fun _ => 0) (ib := fun _ => true) hC hD cr_OK0 (cr_EX0 hb) ha
end
section
/-! extra: X's marks, a day each, against Y's list of at most twelve -/
section
variable {n : Nat} {ex inc sd : Nat → Int32} {g : Nat → Nat} {ib : Nat → Bool} {d : Nat}
theorem cr_EXnop {sd' : Nat → Int32} (h : cr_EX n ex inc sd g ib) (hs : ∀ i, i < 7305 → sd' i = sd i) : cr_EX n ex inc sd' g ib :=
  ⟨fun i hi => ⟨(h.1 i hi).1, (h.1 i hi).2.1, (h.1 i hi).2.2.1, by rw [hs _ (h.1 i hi).1]; exact (h.1 i hi).2.2.2⟩, h.2.1, fun d hd z => by rw [hs d hd]; exact h.2.2 d hd z⟩
theorem cr_EXadd {b : Bool} {x : Int32} (h : cr_EX n ex inc sd g ib) (hd : d < 7305) (hz : ∀ i, i < n → g i ≠ d) (hx : x = if b then 1 else 2) : cr_EX (n + 1) (upd ex n (nI d)) (upd inc n (cr_b b)) (upd sd d x) (fun i => if i = n then d else g i) (fun i => if i = n then b else ib i) := by
  refine ⟨fun i hi => ?_, fun i j hi hj e => ?_, fun q hq z => ?_⟩
  · by_cases w : i = n
    · subst w
      simp only [if_true, pk_us]
      exact ⟨hd, True.intro, True.intro, hx⟩
    · have hi' : i < n := by omega
      obtain ⟨a1, a2, a3, a4⟩ := h.1 i hi'
      simp only [if_neg w, pk_un w]
      rw [pk_un (hz i hi')]
      exact ⟨a1, a2, a3, a4⟩
  · dsimp only at e
    by_cases w : i = n
    · by_cases w' : j = n
      · omega
      · rw [if_pos w, if_neg w'] at e
        exact absurd e.symm (hz j (by omega))
    · by_cases w' : j = n
      · rw [if_neg w, if_pos w'] at e
        exact absurd e (hz i (by omega))
      · rw [if_neg w, if_neg w'] at e
        exact h.2.1 i j (by omega) (by omega) e
  · have z1 := z n (by omega)
    simp only [if_true] at z1
    rw [pk_un (fun k => z1 k.symm)]
    refine h.2.2 q hq (fun i hi k => ?_)
    have z2 := z i (by omega)
    dsimp only at z2
    rw [if_neg (by omega)] at z2
    exact z2 k
theorem cr_EXset {at' : Nat} {b : Bool} {x : Int32} (h : cr_EX n ex inc sd g ib) (ha : at' < n) (hd : g at' = d) (hx : x = if b then 1 else 2) : cr_EX n (upd ex at' (nI d)) (upd inc at' (cr_b b)) (upd sd d x) g (fun i => if i = at' then b else ib i) := by
  refine ⟨fun i hi => ?_, h.2.1, fun q hq z => ?_⟩
  · obtain ⟨a1, a2, a3, a4⟩ := h.1 i hi
    by_cases w : i = at'
    · subst w
      simp only [if_true, pk_us]
      rw [hd, pk_us]
      exact ⟨hd ▸ a1, rfl, True.intro, hx⟩
    · simp only [if_neg w, pk_un w]
      rw [pk_un (fun k => w (h.2.1 i at' hi ha (k.trans hd.symm)))]
      exact ⟨a1, a2, a3, a4⟩
  · rw [pk_un (fun k => z at' ha (hd.trans k.symm))]
    exact h.2.2 q hq z
theorem cr_EXdel {at' : Nat} (h : cr_EX n ex inc sd g ib) (ha : at' < n) (hd : g at' = d) : cr_EX (n - 1) (upd ex at' (ex (n - 1))) (upd inc at' (inc (n - 1))) (upd sd d 0) (fun i => if i = at' then g (n - 1) else g i) (fun i => if i = at' then ib (n - 1) else ib i) := by
  refine ⟨fun i hi => ?_, fun i j hi hj e => ?_, fun q hq z => ?_⟩
  · by_cases w : i = at'
    · subst w
      obtain ⟨a1, a2, a3, a4⟩ := h.1 (n - 1) (by omega)
      simp only [if_true, pk_us]
      rw [pk_un (fun k => absurd (h.2.1 (n - 1) i (by omega) ha (k.trans hd.symm)) (by omega))]
      exact ⟨a1, a2, a3, a4⟩
    · obtain ⟨a1, a2, a3, a4⟩ := h.1 i (by omega)
      simp only [if_neg w, pk_un w]
      rw [pk_un (fun k => w (h.2.1 i at' (by omega) ha (k.trans hd.symm)))]
      exact ⟨a1, a2, a3, a4⟩
  · dsimp only at e
    by_cases w : i = at'
    · by_cases w' : j = at'
      · omega
      · rw [if_pos w, if_neg w'] at e
        have := h.2.1 (n - 1) j (by omega) (by omega) e
        omega
    · by_cases w' : j = at'
      · rw [if_neg w, if_pos w'] at e
        have := h.2.1 i (n - 1) (by omega) (by omega) e
        omega
      · rw [if_neg w, if_neg w'] at e
        exact h.2.1 i j (by omega) (by omega) e
  · by_cases w : q = d
    · rw [w, pk_us]
    · rw [pk_un w]
      refine h.2.2 q hq (fun i hi k => ?_)
      by_cases w1 : i = at'
      · rw [w1, hd] at k
        exact w k.symm
      · by_cases w2 : i = n - 1
        · have z2 := z at' (by omega)
          simp only [if_true] at z2
          rw [w2] at k
          exact z2 k
        · have z2 := z i (by omega)
          dsimp only at z2
          rw [if_neg w1] at z2
          exact z2 k
end
section
variable {n s f t c e d : Nat} {ms ds ls ws o p kn v2 : Int32} {mfA moA ser sd ya mb dta ex inc ca da : Nat → Int32} {g : Nat → Nat} {ib : Nat → Bool}
theorem cr_ye12 {post : Int32 → SY → Prop} (hn : n ≤ 12) (hd : d < 7305) (hE : cr_EX n ex inc sd g ib) (h : ∀ at', (at' = n ∧ (∀ i, i < n → g i ≠ d)) ∨ (at' < n ∧ g at' = d) → wY_extra_36 post (nI d) v2 (nI at') (nI s) (nI f) (nI t) ms ds ls ws o p (nI c) (nI e) (nI n) kn ya mb dta ex inc ca da) : ∀ (k j : Nat), j + k = n → (∀ i, i < j → g i ≠ d) → wY_extra_12 post (nI d) v2 (nI s) (nI f) (nI t) ms ds ls ws o p (nI c) (nI e) (nI n) kn ya mb dta ex inc ca da (k + 1) (nI j) := by
  intro k
  induction k with
  | zero =>
    intro j hj h1
    have hjn : j = n := by omega
    rw [wY_extra_12]
    exact br_t (nI_le (by omega) (by omega)) (h j (Or.inl ⟨hjn, fun i hi => h1 i (by omega)⟩))
  | succ k ih =>
    intro j hj h1
    obtain ⟨a1, a2, a3, a4⟩ := hE.1 j (by omega)
    rw [wY_extra_12]
    dsimp only
    rw [nI_clamp (n := j) (by omega), a2]
    refine br_f (nI_ge (by omega) (by omega)) ⟨vp_in_nI (by omega) (by decide), pk_eq (g j) d (fun z => h j (Or.inr ⟨by omega, z⟩)) (fun z => nm_r (nI_1 j) (ih (j + 1) (by omega) (fun i hi => ?_)))⟩
    by_cases w : i = j
    · rw [w]; exact z
    · exact h1 i (by omega)
theorem cr_n8 : vp_nar .byte (1 : Int32).toInt8.toInt32 = 1 ∧ vp_nar .byte (2 : Int32).toInt8.toInt32 = 2 ∧ vp_nar .byte (0 : Int32).toInt8.toInt32 = 0 := ⟨rfl, rfl, rfl⟩
/-- X from the mark as it was: b the mark before, w the mark that is to be -/
theorem cr_xe78 {post : Int32 → SX → Prop} {x z0 y : Int32} (hd : d < 7305) (hy : vp_nar .byte z0.toInt8.toInt32 = y) (h : post x (x, nI s, nI f, nI t, ms, ds, ls, ws, o, p, nI c, nI e, mfA, moA, ser, upd sd d y)) : wX_extra_78 post x z0 (nI d) (nI n) (nI s) (nI f) (nI t) ms ds ls ws o p (nI c) (nI e) mfA moA ser sd := by
  unfold wX_extra_78
  rw [cr_cl hd, hy]
  exact ⟨cr_in hd, nm_e h⟩
theorem cr_xe39 {post : Int32 → SX → Prop} {m : Nat} {x3 z0 y : Int32} (hd : d < 7305) (hm : (nI n - x3) + z0 = nI m) (hb : m ≤ 13) (hy : vp_nar .byte (if z0 = 1 then v2 else 0).toInt8.toInt32 = y) (h0 : m ≤ 12 → post (nI m) (nI m, nI s, nI f, nI t, ms, ds, ls, ws, o, p, nI c, nI e, mfA, moA, ser, upd sd d y)) (h1 : m = 13 → post (-3) (nI n, nI s, nI f, nI t, ms, ds, ls, ws, o, p, nI c, nI e, mfA, moA, ser, sd)) : wX_extra_39 post (nI d) v2 x3 z0 (nI n) (nI s) (nI f) (nI t) ms ds ls ws o p (nI c) (nI e) mfA moA ser sd := by
  unfold wX_extra_39
  refine nm_r hm (pk_le m 12 (fun g => ?_) (fun g => h1 (by omega)))
  by_cases z : z0 = 1
  · rw [if_pos z] at hy
    exact br_t z (cr_xe78 hd hy (h0 g))
  · rw [if_neg z] at hy
    exact br_f z (cr_xe78 hd hy (h0 g))
theorem cr_xe23 {post : Int32 → SX → Prop} {m : Nat} {x3 y : Int32} (hd : d < 7305) (hm : (nI n - x3) + (if v2 = 1 ∨ v2 = 2 then 1 else 0) = nI m) (hb : m ≤ 13) (hy : (if v2 = 1 then (1 : Int32) else if v2 = 2 then 2 else 0) = y) (h0 : m ≤ 12 → post (nI m) (nI m, nI s, nI f, nI t, ms, ds, ls, ws, o, p, nI c, nI e, mfA, moA, ser, upd sd d y)) (h1 : m = 13 → post (-3) (nI n, nI s, nI f, nI t, ms, ds, ls, ws, o, p, nI c, nI e, mfA, moA, ser, sd)) : wX_extra_23 post (nI d) v2 x3 (nI n) (nI s) (nI f) (nI t) ms ds ls ws o p (nI c) (nI e) mfA moA ser sd := by
  unfold wX_extra_23 wX_extra_34
  by_cases z1 : v2 = 1
  · rw [if_pos (Or.inl z1)] at hm
    refine br_t z1 (cr_xe39 (m := m) (y := y) hd hm hb ?_ h0 h1)
    rw [if_pos z1] at hy
    rw [if_pos rfl, z1, ← hy]
    rfl
  · by_cases z2 : v2 = 2
    · rw [if_pos (Or.inr z2)] at hm
      refine br_f z1 (br_t z2 (cr_xe39 (m := m) (y := y) hd hm hb ?_ h0 h1))
      rw [if_neg z1, if_pos z2] at hy
      rw [if_pos rfl, z2, ← hy]
      rfl
    · rw [if_neg (fun k => k.elim z1 z2)] at hm
      refine br_f z1 (br_f z2 (cr_xe39 (m := m) (y := y) hd hm hb ?_ h0 h1))
      rw [if_neg z1, if_neg z2] at hy
      rw [if_neg (by decide), ← hy]
      rfl
theorem cr_vc_extra {k : Nat} {v1 : Int32} (hC : cr_CX mfA moA) (hD : cr_CY ya mb dta) (hO : cr_OK n s f t c e p) (hE : cr_EX n ex inc sd g ib) (hS : ∀ i, i < 7305 → ser i = cr_b (cr_se s f t ms ds ls ws o p c e i)) (hK : ¬ kn = 0 → ∀ i, i < 7305 → da i = cr_b (cr_rl sd (cr_se s f t ms ds ls ws o p c e) i)) (hd : d < 7305) : wX_extra_23 (fun r u' => wpY_extra (fun r' v' => r' = r ∧ i_Rel k u' v') (nI s, nI f, nI t, ms, ds, ls, ws, o, p, nI c, nI e, nI n, kn, ya, mb, dta, ex, inc, ca, da) (nI d) v2) (nI d) v2 (if sd d = 0 then 0 else 1) (nI n) (nI s) (nI f) (nI t) ms ds ls ws o p (nI c) (nI e) mfA moA ser sd := by
  obtain ⟨o1, o2, o3, o4, o5, o6, o7, o8, o9⟩ := hO
  have found : ∀ at', at' < n → g at' = d → ¬ sd d = 0 := by
    intro at' ha hg
    have := (hE.1 at' ha).2.2.2
    rw [hg] at this
    rw [this]
    cases ib at' <;> decide
  have go : ∀ post : Int32 → SY → Prop, (∀ at', (at' = n ∧ (∀ i, i < n → g i ≠ d)) ∨ (at' < n ∧ g at' = d) → wY_extra_36 post (nI d) v2 (nI at') (nI s) (nI f) (nI t) ms ds ls ws o p (nI c) (nI e) (nI n) kn ya mb dta ex inc ca da) → wpY_extra post (nI s, nI f, nI t, ms, ds, ls, ws, o, p, nI c, nI e, nI n, kn, ya, mb, dta, ex, inc, ca, da) (nI d) v2 := by
    intro post h
    unfold wpY_extra
    dsimp only
    exact cr_yid hd (br_f (by decide) ⟨n + 1, cr_ye12 o7 hd hE h n 0 (by omega) (fun i hi => absurd hi (by omega))⟩)
  by_cases z : sd d = 0
  · -- not in the list
    have nf : ∀ at', (at' = n ∧ (∀ i, i < n → g i ≠ d)) ∨ (at' < n ∧ g at' = d) → at' = n ∧ (∀ i, i < n → g i ≠ d) := by
      intro at' h
      rcases h with h | h
      · exact h
      · exact absurd z (found at' h.1 h.2)
    rw [if_pos z]
    by_cases zh : v2 = 1 ∨ v2 = 2
    · refine cr_xe23 (m := n + 1) hd (by rw [if_pos zh, Int32.sub_zero, nI_1]) (by omega) rfl (fun h12 => go _ (fun at' h => ?_)) (fun h13 => go _ (fun at' h => ?_))
      · obtain ⟨rfl, hz⟩ := nf at' h
        have e46 : wY_extra_46 (fun r' v' => r' = nI (at' + 1) ∧ i_Rel k (nI (at' + 1), nI s, nI f, nI t, ms, ds, ls, ws, o, p, nI c, nI e, mfA, moA, ser, upd sd d (if v2 = 1 then (1 : Int32) else if v2 = 2 then 2 else 0)) v') (nI d) v2 (nI at') (nI s) (nI f) (nI t) ms ds ls ws o p (nI c) (nI e) (nI at') kn ya mb dta ex inc ca da := by
          unfold wY_extra_46
          refine br_f (fun q => ?_) ⟨vp_in_nI (by omega) (by decide), nm_r (by rw [nI_clamp (by omega)]) ?_⟩
          · have : nI at' = nI 12 := q
            rw [nI_eq (by omega) (by omega)] at this
            omega
          · unfold wY_extra_77
            rw [nI_clamp (n := at') (by omega), nI_1]
            by_cases z1 : v2 = 1
            · refine br_t z1 ⟨vp_in_nI (by omega) (by decide), nm_r (show _ = upd inc at' (cr_b true) from rfl) (br_t rfl (nm_e ⟨rfl, ?_⟩))⟩
              exact cr_mk0 hC hD ⟨o1, o2, o3, o4, o5, o6, by omega, o8, o9⟩ (cr_EXadd hE hd hz (by rw [if_pos z1]; rfl)) hS
            · have z2 : v2 = 2 := zh.resolve_left z1
              refine br_f z1 ⟨vp_in_nI (by omega) (by decide), nm_r (show _ = upd inc at' (cr_b false) from rfl) (br_t rfl (nm_e ⟨rfl, ?_⟩))⟩
              exact cr_mk0 hC hD ⟨o1, o2, o3, o4, o5, o6, by omega, o8, o9⟩ (cr_EXadd hE hd hz (by rw [if_neg z1, if_pos z2]; rfl)) hS
        unfold wY_extra_36
        by_cases z1 : v2 = 1
        · exact br_t z1 e46
        · exact br_f z1 (br_t (zh.resolve_left z1) e46)
      · obtain ⟨rfl, hz⟩ := nf at' h
        have e46 : wY_extra_46 (fun r' v' => r' = -3 ∧ i_Rel k (nI at', nI s, nI f, nI t, ms, ds, ls, ws, o, p, nI c, nI e, mfA, moA, ser, sd) v') (nI d) v2 (nI at') (nI s) (nI f) (nI t) ms ds ls ws o p (nI c) (nI e) (nI at') kn ya mb dta ex inc ca da := by
          unfold wY_extra_46
          refine br_t (by rw [show at' = 12 by omega]; rfl) ⟨rfl, cr_mk hC hD ⟨o1, o2, o3, o4, o5, o6, o7, o8, o9⟩ hE hS hK⟩
        unfold wY_extra_36
        by_cases z1 : v2 = 1
        · exact br_t z1 e46
        · exact br_f z1 (br_t (zh.resolve_left z1) e46)
    · have z1 : ¬ v2 = 1 := fun q => zh (Or.inl q)
      have z2 : ¬ v2 = 2 := fun q => zh (Or.inr q)
      refine cr_xe23 (m := n) (y := 0) hd (by rw [if_neg zh, Int32.sub_zero, Int32.add_zero]) (by omega) (by rw [if_neg z1, if_neg z2]) (fun h12 => go _ (fun at' h => ?_)) (fun h13 => absurd h13 (by omega))
      obtain ⟨rfl, hz⟩ := nf at' h
      unfold wY_extra_36
      refine br_f z1 (br_f z2 (br_t (nI_le (Nat.le_refl _) (by omega)) ⟨rfl, ?_⟩))
      refine cr_mk0 hC hD ⟨o1, o2, o3, o4, o5, o6, o7, o8, o9⟩ (cr_EXnop hE (fun i hi => ?_)) hS
      by_cases w : i = d
      · rw [w, pk_us, z]
      · rw [pk_un w]
  · -- in the list
    have nf : ∀ at', (at' = n ∧ (∀ i, i < n → g i ≠ d)) ∨ (at' < n ∧ g at' = d) → at' < n ∧ g at' = d := by
      intro at' h
      rcases h with h | h
      · exact absurd (hE.2.2 d hd h.2) z
      · exact h
    rw [if_neg z]
    have hn0 : 0 < n := by
      cases n with
      | zero => exact absurd (hE.2.2 d hd (fun i hi => absurd hi (by omega))) z
      | succ n => omega
    have em : nI n - 1 = nI (n - 1) := pk_sub (b := 1) (by omega)
    by_cases zh : v2 = 1 ∨ v2 = 2
    · refine cr_xe23 (m := n) hd (by rw [if_pos zh, em, nI_1]; exact congrArg nI (by omega)) (by omega) rfl (fun h12 => go _ (fun at' h => ?_)) (fun h13 => absurd h13 (by omega))
      obtain ⟨ha, hg⟩ := nf at' h
      have e46 : wY_extra_46 (fun r' v' => r' = nI n ∧ i_Rel k (nI n, nI s, nI f, nI t, ms, ds, ls, ws, o, p, nI c, nI e, mfA, moA, ser, upd sd d (if v2 = 1 then (1 : Int32) else if v2 = 2 then 2 else 0)) v') (nI d) v2 (nI at') (nI s) (nI f) (nI t) ms ds ls ws o p (nI c) (nI e) (nI n) kn ya mb dta ex inc ca da := by
        unfold wY_extra_46
        refine br_f (fun q => ?_) ⟨vp_in_nI (by omega) (by decide), nm_r (by rw [nI_clamp (by omega)]) ?_⟩
        · have : nI at' = nI 12 := q
          rw [nI_eq (by omega) (by omega)] at this
          omega
        · unfold wY_extra_77
          have ne : ¬ nI at' = nI n := by
            rw [nI_eq (by omega) (by omega)]
            omega
          rw [nI_clamp (n := at') (by omega)]
          by_cases z1 : v2 = 1
          · refine br_t z1 ⟨vp_in_nI (by omega) (by decide), nm_r (show _ = upd inc at' (cr_b true) from rfl) (br_f ne ⟨rfl, ?_⟩)⟩
            exact cr_mk0 hC hD ⟨o1, o2, o3, o4, o5, o6, o7, o8, o9⟩ (cr_EXset hE ha hg (by rw [if_pos z1]; rfl)) hS
          · have z2 : v2 = 2 := zh.resolve_left z1
            refine br_f z1 ⟨vp_in_nI (by omega) (by decide), nm_r (show _ = upd inc at' (cr_b false) from rfl) (br_f ne ⟨rfl, ?_⟩)⟩
            exact cr_mk0 hC hD ⟨o1, o2, o3, o4, o5, o6, o7, o8, o9⟩ (cr_EXset hE ha hg (by rw [if_neg z1, if_pos z2]; rfl)) hS
      unfold wY_extra_36
      by_cases z1 : v2 = 1
      · exact br_t z1 e46
      · exact br_f z1 (br_t (zh.resolve_left z1) e46)
    · have z1 : ¬ v2 = 1 := fun q => zh (Or.inl q)
      have z2 : ¬ v2 = 2 := fun q => zh (Or.inr q)
      refine cr_xe23 (m := n - 1) (y := 0) hd (by rw [if_neg zh, em, Int32.add_zero]) (by omega) (by rw [if_neg z1, if_neg z2]) (fun h12 => go _ (fun at' h => ?_)) (fun h13 => absurd h13 (by omega))
      obtain ⟨ha, hg⟩ := nf at' h
      unfold wY_extra_36
      refine br_f z1 (br_f z2 (br_f (nI_ge ha (by omega)) (nm_r em ?_)))
      rw [nI_clamp (n := at') (by omega), nI_clamp (n := n - 1) (by omega)]
      have hinc : vp_nar .boolean (inc (n - 1)) = inc (n - 1) := by
        rw [(hE.1 (n - 1) (by omega)).2.2.1]
        exact cr_nz _
      rw [hinc]
      refine ⟨vp_in_nI (by omega) (by decide), vp_in_nI (by omega) (by decide), nm_e ⟨vp_in_nI (by omega) (by decide), vp_in_nI (by omega) (by decide), nm_e ⟨rfl, ?_⟩⟩⟩
      exact cr_mk0 hC hD ⟨o1, o2, o3, o4, o5, o6, by omega, o8, o9⟩ (cr_EXdel hE ha hg) hS
end
theorem i_vc_extra {k : Nat} {u : SX} {v : SY} (I : i_Rel k u v) (hk : k + 4 ≤ 2048) (v1 : Int32) (v2 : Int32) : wpX_extra (fun r u' => wpY_extra (fun r' v' => r' = r ∧ i_Rel (k + 4) u' v') v v1 v2) u v1 v2 := by
  have I' := I
  obtain ⟨n, s, f, t, c, e, ms, ds, ls, ws, o, p, kn, mfA, moA, ser, sd, ya, mb, dta, ex, inc, ca, da, g, ib, rfl, rfl, hC, hD, hO, hE, hS, hK⟩ := I
  unfold wpX_extra
  dsimp only
  have bad : v1 < 0 ∨ nI 7305 ≤ v1 → wpX_extra (fun r u' => wpY_extra (fun r' v' => r' = r ∧ i_Rel (k + 4) u' v') (nI s, nI f, nI t, ms, ds, ls, ws, o, p, nI c, nI e, nI n, kn, ya, mb, dta, ex, inc, ca, da) v1 v2) (nI n, nI s, nI f, nI t, ms, ds, ls, ws, o, p, nI c, nI e, mfA, moA, ser, sd) v1 v2 := by
    intro hx
    unfold wpX_extra wpY_extra
    dsimp only
    exact cr_xis hx (br_t rfl (cr_yis hx (br_t rfl ⟨rfl, I'⟩)))
  rcases pk_ix v1 (n := 7305) (by decide) with hx | hx | ⟨j, hj, rfl⟩
  · exact bad (Or.inl hx)
  · exact bad (Or.inr hx)
  · have main := cr_vc_extra (k := k + 4) (v1 := 0) (v2 := v2) (ca := ca) hC hD hO hE hS hK hj
    rw [cr_cl hj]
    refine cr_xid hj (br_f (by decide) ⟨cr_in hj, br_c (fun z => ?_) (fun z => ?_)⟩)
    · rw [if_pos z] at main
      exact main
    · rw [if_neg z] at main
      exact main
end
section
/-! the calls that ask -/
section
variable {n s f t c e d : Nat} {ms ds ls ws o p kn : Int32} {mfA moA ser sd ya mb dta ex inc ca da : Nat → Int32} {sr rl : Nat → Bool}
theorem cr_xrl {post : Int32 → Prop} (hd : d < 7305) (hS : ∀ i, i < 7305 → ser i = cr_b (sr i)) (h : post (cr_b (cr_rl sd sr d))) : wpX_isOfRule post (nI n, nI s, nI f, nI t, ms, ds, ls, ws, o, p, nI c, nI e, mfA, moA, ser, sd) (nI d) := by
  unfold wpX_isOfRule
  dsimp only
  unfold cr_rl at h
  have hi := cr_in hd
  rw [cr_cl hd, hS d hd]
  by_cases z1 : sd d = 1
  · rw [if_pos z1] at h
    exact ⟨hi, br_t z1 h⟩
  · rw [if_neg z1] at h
    by_cases z2 : sd d = 0
    · rw [if_pos z2] at h
      refine ⟨hi, br_f z1 ⟨hi, br_t z2 ⟨hi, cr_sel (fun z => ?_) (fun z => ?_)⟩⟩⟩
      · rw [z] at h; exact h
      · rw [z] at h; exact h
    · rw [if_neg z2] at h
      exact ⟨hi, br_f z1 ⟨hi, br_f z2 h⟩⟩
theorem cr_next (hS : ∀ i, i < 7305 → ser i = cr_b (sr i)) : ∀ (k j : Nat), j + k = 7305 → ∃ r : Int32, (∀ post : Int32 → Prop, post r → wX_next_11 post (nI n) (nI s) (nI f) (nI t) ms ds ls ws o p (nI c) (nI e) mfA moA ser sd (k + 1) (nI j)) ∧ (∀ (post : Int32 → SY → Prop) (kn : Int32) (ca da : Nat → Int32), (∀ i, i < 7305 → da i = cr_b (cr_rl sd sr i)) → post r (nI s, nI f, nI t, ms, ds, ls, ws, o, p, nI c, nI e, nI n, kn, ya, mb, dta, ex, inc, ca, da) → wY_next_16 post (nI s) (nI f) (nI t) ms ds ls ws o p (nI c) (nI e) (nI n) kn ya mb dta ex inc ca da (k + 1) (nI j)) := by
  intro k
  induction k with
  | zero =>
    intro j hj
    have h : (7305 : Int32) ≤ nI j := nI_le (a := 7305) (by omega) (by omega)
    refine ⟨-4, fun post hp => ?_, fun post kn ca da hd hp => ?_⟩
    · rw [wX_next_11]
      exact br_t h hp
    · rw [wY_next_16]
      exact br_t h hp
  | succ k ih =>
    intro j hj
    have hj' : j < 7305 := by omega
    have h : ¬ (7305 : Int32) ≤ nI j := nI_ge (b := 7305) hj' (by decide)
    obtain ⟨r, hX, hY⟩ := ih (j + 1) (by omega)
    cases b : cr_rl sd sr j
    · refine ⟨r, fun post hp => ?_, fun post kn ca da hd hp => ?_⟩
      · rw [wX_next_11]
        refine br_f h (cr_xrl hj' hS ?_)
        rw [b]
        exact br_t rfl (nm_r (nI_1 j) (hX post hp))
      · rw [wY_next_16]
        dsimp only
        rw [cr_cl hj', hd j hj', b]
        exact br_f h ⟨cr_in hj', br_t rfl (nm_r (nI_1 j) (hY post kn ca da hd hp))⟩
    · refine ⟨nI j, fun post hp => ?_, fun post kn ca da hd hp => ?_⟩
      · rw [wX_next_11]
        refine br_f h (cr_xrl hj' hS ?_)
        rw [b]
        exact br_f (by decide) hp
      · rw [wY_next_16]
        dsimp only
        rw [cr_cl hj', hd j hj', b]
        exact br_f h ⟨cr_in hj', br_f (by decide) hp⟩
theorem cr_prev (hS : ∀ i, i < 7305 → ser i = cr_b (sr i)) : ∀ (j : Nat), j ≤ 7305 → ∃ r : Int32, (∀ post : Int32 → Prop, post r → wX_previous_11 post (nI n) (nI s) (nI f) (nI t) ms ds ls ws o p (nI c) (nI e) mfA moA ser sd (j + 1) (cr_pos true j)) ∧ (∀ (post : Int32 → SY → Prop) (kn : Int32) (ca da : Nat → Int32), (∀ i, i < 7305 → da i = cr_b (cr_rl sd sr i)) → post r (nI s, nI f, nI t, ms, ds, ls, ws, o, p, nI c, nI e, nI n, kn, ya, mb, dta, ex, inc, ca, da) → wY_previous_16 post (nI s) (nI f) (nI t) ms ds ls ws o p (nI c) (nI e) (nI n) kn ya mb dta ex inc ca da (j + 1) (cr_pos true j)) := by
  intro j
  induction j with
  | zero =>
    intro hj
    have h : cr_pos true 0 < 0 := by decide
    refine ⟨-4, fun post hp => ?_, fun post kn ca da hd hp => ?_⟩
    · rw [wX_previous_11]
      exact br_t h hp
    · rw [wY_previous_16]
      exact br_t h hp
  | succ j ih =>
    intro hj
    have hj' : j < 7305 := by omega
    have h : ¬ nI j < 0 := nI_pos (by omega)
    have e0 : cr_pos true (j + 1) = nI j := rfl
    have e1 : nI j + (-1) = cr_pos true j := cr_wayj true hj'
    rw [e0]
    obtain ⟨r, hX, hY⟩ := ih (by omega)
    cases b : cr_rl sd sr j
    · refine ⟨r, fun post hp => ?_, fun post kn ca da hd hp => ?_⟩
      · rw [wX_previous_11]
        refine br_f h (cr_xrl hj' hS ?_)
        rw [b]
        exact br_t rfl (nm_r e1 (hX post hp))
      · rw [wY_previous_16]
        dsimp only
        rw [cr_cl hj', hd j hj', b]
        exact br_f h ⟨cr_in hj', br_t rfl (nm_r e1 (hY post kn ca da hd hp))⟩
    · refine ⟨nI j, fun post hp => ?_, fun post kn ca da hd hp => ?_⟩
      · rw [wX_previous_11]
        refine br_f h (cr_xrl hj' hS ?_)
        rw [b]
        exact br_f (by decide) hp
      · rw [wY_previous_16]
        dsimp only
        rw [cr_cl hj', hd j hj', b]
        exact br_f h ⟨cr_in hj', br_f (by decide) hp⟩
theorem cr_nthn {post : Int32 → Prop} {x : Int32} (hx : x < 0) (hS : ∀ i, i < 7305 → ser i = cr_b (sr i)) (hp : post (-4)) : ∀ (k j m : Nat), j + k = 7305 → m ≤ j → wX_nth_4 post x (nI n) (nI s) (nI f) (nI t) ms ds ls ws o p (nI c) (nI e) mfA moA ser sd (k + 1) (nI m) (nI j) := by
  intro k
  induction k with
  | zero =>
    intro j m hj hm
    rw [wX_nth_4]
    exact br_t (nI_le (a := 7305) (by omega) (by omega)) hp
  | succ k ih =>
    intro j m hj hm
    have hj' : j < 7305 := by omega
    have h : ¬ (7305 : Int32) ≤ nI j := nI_ge (b := 7305) hj' (by decide)
    have hne : ¬ nI m = x := by
      intro z
      rw [← z] at hx
      exact nI_pos (by omega) hx
    rw [wX_nth_4]
    refine br_f h (cr_xrl hj' hS (cr_sel (fun z => nm_r (nI_1 j) (ih (j + 1) m (by omega) (by omega))) (fun z => br_f hne (nm_r (nI_1 m) (nm_r (nI_1 j) (ih (j + 1) (m + 1) (by omega) (by omega)))))))
theorem cr_nth {q : Nat} (hq : q < 2 ^ 31) (hS : ∀ i, i < 7305 → ser i = cr_b (sr i)) : ∀ (k j m : Nat), j + k = 7305 → m ≤ q → ∃ r : Int32, (∀ post : Int32 → Prop, post r → wX_nth_4 post (nI q) (nI n) (nI s) (nI f) (nI t) ms ds ls ws o p (nI c) (nI e) mfA moA ser sd (k + 1) (nI m) (nI j)) ∧ (∀ (post : Int32 → SY → Prop) (kn : Int32) (ca da : Nat → Int32), (∀ i, i < 7305 → da i = cr_b (cr_rl sd sr i)) → post r (nI s, nI f, nI t, ms, ds, ls, ws, o, p, nI c, nI e, nI n, kn, ya, mb, dta, ex, inc, ca, da) → wY_nth_8 post (nI q) (nI s) (nI f) (nI t) ms ds ls ws o p (nI c) (nI e) (nI n) kn ya mb dta ex inc ca da (k + 1) (nI (q - m)) (nI j)) := by
  intro k
  induction k with
  | zero =>
    intro j m hj hm
    have h : (7305 : Int32) ≤ nI j := nI_le (a := 7305) (by omega) (by omega)
    refine ⟨-4, fun post hp => ?_, fun post kn ca da hd hp => ?_⟩
    · rw [wX_nth_4]
      exact br_t h hp
    · rw [wY_nth_8]
      exact br_t h hp
  | succ k ih =>
    intro j m hj hm
    have hj' : j < 7305 := by omega
    have h : ¬ (7305 : Int32) ≤ nI j := nI_ge (b := 7305) hj' (by decide)
    have hq0 : ¬ nI q < 0 := nI_pos hq
    cases b : cr_rl sd sr j
    · obtain ⟨r, hX, hY⟩ := ih (j + 1) m (by omega) hm
      refine ⟨r, fun post hp => ?_, fun post kn ca da hd hp => ?_⟩
      · rw [wX_nth_4]
        refine br_f h (cr_xrl hj' hS ?_)
        rw [b]
        exact br_t rfl (nm_r (nI_1 j) (hX post hp))
      · rw [wY_nth_8]
        dsimp only
        rw [cr_cl hj', hd j hj', b]
        exact br_f h (br_f hq0 ⟨cr_in hj', br_t rfl (nm_r (nI_1 j) (hY post kn ca da hd hp))⟩)
    · by_cases z : m = q
      · refine ⟨nI j, fun post hp => ?_, fun post kn ca da hd hp => ?_⟩
        · rw [wX_nth_4]
          refine br_f h (cr_xrl hj' hS ?_)
          rw [b]
          exact br_f (by decide) (br_t (by rw [z]) hp)
        · rw [wY_nth_8]
          dsimp only
          rw [cr_cl hj', hd j hj', b]
          exact br_f h (br_f hq0 ⟨cr_in hj', br_f (by decide) (br_t (by rw [z, Nat.sub_self]; rfl) hp)⟩)
      · obtain ⟨r, hX, hY⟩ := ih (j + 1) (m + 1) (by omega) (by omega)
        refine ⟨r, fun post hp => ?_, fun post kn ca da hd hp => ?_⟩
        · rw [wX_nth_4]
          refine br_f h (cr_xrl hj' hS ?_)
          rw [b]
          refine br_f (by decide) (br_f ?_ (nm_r (nI_1 m) (nm_r (nI_1 j) (hX post hp))))
          rw [nI_eq (by omega) hq]
          exact z
        · rw [wY_nth_8]
          dsimp only
          rw [cr_cl hj', hd j hj', b]
          have e2 : nI (q - m) + (-1) = nI (q - (m + 1)) := by
            have e3 : q - m = q - (m + 1) + 1 := by omega
            rw [e3]
            exact pk_m1 _
          exact br_f h (br_f hq0 ⟨cr_in hj', br_f (by decide) (br_f (nI_ne0 (by omega) (by omega)) (nm_r e2 (nm_r (nI_1 j) (hY post kn ca da hd hp))))⟩)
theorem cr_btw {q : Nat} (hq : q < 7305) (hS : ∀ i, i < 7305 → ser i = cr_b (sr i)) : ∀ (k j : Nat) (m : Int32), q < j + k → j ≤ 7305 → ∃ r : Int32, (∀ post : Int32 → Prop, post r → wX_between_21 post (nI q) (nI n) (nI s) (nI f) (nI t) ms ds ls ws o p (nI c) (nI e) mfA moA ser sd (k + 1) m (nI j)) ∧ (∀ (post : Int32 → SY → Prop) (kn : Int32) (ca da : Nat → Int32), (∀ i, i < 7305 → da i = cr_b (cr_rl sd sr i)) → post r (nI s, nI f, nI t, ms, ds, ls, ws, o, p, nI c, nI e, nI n, kn, ya, mb, dta, ex, inc, ca, da) → wY_between_27 post (nI q) (nI s) (nI f) (nI t) ms ds ls ws o p (nI c) (nI e) (nI n) kn ya mb dta ex inc ca da (k + 1) m (nI j)) := by
  intro k
  induction k with
  | zero =>
    intro j m hj hj5
    have h : nI q < nI j := nI_lt (by omega) (by omega)
    refine ⟨m, fun post hp => ?_, fun post kn ca da hd hp => ?_⟩
    · rw [wX_between_21]
      exact br_t h hp
    · rw [wY_between_27]
      exact br_t h hp
  | succ k ih =>
    intro j m hj hj5
    by_cases w : q < j
    · have h : nI q < nI j := nI_lt w (by omega)
      refine ⟨m, fun post hp => ?_, fun post kn ca da hd hp => ?_⟩
      · rw [wX_between_21]
        exact br_t h hp
      · rw [wY_between_27]
        exact br_t h hp
    · have hj' : j < 7305 := by omega
      have h : ¬ nI q < nI j := nI_nlt (by omega) (by omega)
      cases b : cr_rl sd sr j
      · obtain ⟨r, hX, hY⟩ := ih (j + 1) m (by omega) (by omega)
        refine ⟨r, fun post hp => ?_, fun post kn ca da hd hp => ?_⟩
        · rw [wX_between_21]
          refine br_f h (cr_xrl hj' hS ?_)
          rw [b]
          exact br_t rfl (nm_r (nI_1 j) (hX post hp))
        · rw [wY_between_27]
          dsimp only
          rw [cr_cl hj', hd j hj', b]
          exact br_f h ⟨cr_in hj', br_t rfl (nm_r (nI_1 j) (hY post kn ca da hd hp))⟩
      · obtain ⟨r, hX, hY⟩ := ih (j + 1) (m + 1) (by omega) (by omega)
        refine ⟨r, fun post hp => ?_, fun post kn ca da hd hp => ?_⟩
        · rw [wX_between_21]
          refine br_f h (cr_xrl hj' hS ?_)
          rw [b]
          exact br_f (by decide) (nm_e (nm_r (nI_1 j) (hX post hp)))
        · rw [wY_between_27]
          dsimp only
          rw [cr_cl hj', hd j hj', b]
          exact br_f h ⟨cr_in hj', br_f (by decide) (nm_e (nm_r (nI_1 j) (hY post kn ca da hd hp)))⟩
end
theorem i_vc_occurs {k : Nat} {u : SX} {v : SY} (I : i_Rel k u v) (hk : k + 4 ≤ 2048) (v1 : Int32) : wpX_occurs (fun r => wpY_occurs (fun r' v' => r' = r ∧ i_Rel (k + 4) u v') v v1) u v1 := by
  obtain ⟨n, s, f, t, c, e, ms, ds, ls, ws, o, p, kn, mfA, moA, ser, sd, ya, mb, dta, ex, inc, ca, da, g, ib, rfl, rfl, hC, hD, hO, hE, hS, hK⟩ := I
  obtain ⟨o1, o2, o3, o4, o5, o6, o7, o8, o9⟩ := id hO
  unfold wpX_occurs
  dsimp only
  have work : ∀ post : SY → Prop, (∀ k' b' a', ¬ k' = 0 → (∀ i, i < 7305 → a' i = cr_b (cr_rl sd (cr_se s f t ms ds ls ws o p c e) i)) → post (nI s, nI f, nI t, ms, ds, ls, ws, o, p, nI c, nI e, nI n, k', ya, mb, dta, ex, inc, b', a')) → wpY_work post (nI s, nI f, nI t, ms, ds, ls, ws, o, p, nI c, nI e, nI n, kn, ya, mb, dta, ex, inc, ca, da) := fun post h => cr_ywork hD o1 o2 o3 o4 o6 o5 o8 o9 o7 hE hK h
  have bad : v1 < 0 ∨ nI 7305 ≤ v1 → wpX_occurs (fun r => wpY_occurs (fun r' v' => r' = r ∧ i_Rel (k + 4) (nI n, nI s, nI f, nI t, ms, ds, ls, ws, o, p, nI c, nI e, mfA, moA, ser, sd) v') (nI s, nI f, nI t, ms, ds, ls, ws, o, p, nI c, nI e, nI n, kn, ya, mb, dta, ex, inc, ca, da) v1) (nI n, nI s, nI f, nI t, ms, ds, ls, ws, o, p, nI c, nI e, mfA, moA, ser, sd) v1 := by
    intro hx
    unfold wpX_occurs wpY_occurs
    dsimp only
    refine cr_xis hx (br_t rfl (work _ (fun k' b' a' h1 h2 => ?_)))
    exact cr_yis hx (br_t rfl ⟨rfl, cr_mk hC hD hO hE hS (fun _ => h2)⟩)
  rcases pk_ix v1 (n := 7305) (by decide) with hx | hx | ⟨j, hj, rfl⟩
  · exact bad (Or.inl hx)
  · exact bad (Or.inr hx)
  · refine cr_xid hj (br_f (by decide) (cr_xrl hj hS ?_))
    unfold wpY_occurs
    dsimp only
    refine cr_sel (fun z => work _ (fun k' b' a' h1 h2 => ?_)) (fun z => work _ (fun k' b' a' h1 h2 => ?_))
    · dsimp only
      refine cr_yid hj (br_f (by decide) ⟨cr_in hj, ?_⟩)
      rw [cr_cl hj, h2 j hj, z]
      exact br_t rfl ⟨rfl, cr_mk hC hD hO hE hS (fun _ => h2)⟩
    · dsimp only
      refine cr_yid hj (br_f (by decide) ⟨cr_in hj, ?_⟩)
      rw [cr_cl hj, h2 j hj, z]
      exact br_f (by decide) ⟨rfl, cr_mk hC hD hO hE hS (fun _ => h2)⟩
theorem i_vc_next {k : Nat} {u : SX} {v : SY} (I : i_Rel k u v) (hk : k + 4 ≤ 2048) (v1 : Int32) : wpX_next (fun r => wpY_next (fun r' v' => r' = r ∧ i_Rel (k + 4) u v') v v1) u v1 := by
  have I' := I
  obtain ⟨n, s, f, t, c, e, ms, ds, ls, ws, o, p, kn, mfA, moA, ser, sd, ya, mb, dta, ex, inc, ca, da, g, ib, rfl, rfl, hC, hD, hO, hE, hS, hK⟩ := I
  obtain ⟨o1, o2, o3, o4, o5, o6, o7, o8, o9⟩ := id hO
  unfold wpX_next
  dsimp only
  have work : ∀ post : SY → Prop, (∀ k' b' a', ¬ k' = 0 → (∀ i, i < 7305 → a' i = cr_b (cr_rl sd (cr_se s f t ms ds ls ws o p c e) i)) → post (nI s, nI f, nI t, ms, ds, ls, ws, o, p, nI c, nI e, nI n, k', ya, mb, dta, ex, inc, b', a')) → wpY_work post (nI s, nI f, nI t, ms, ds, ls, ws, o, p, nI c, nI e, nI n, kn, ya, mb, dta, ex, inc, ca, da) := fun post h => cr_ywork hD o1 o2 o3 o4 o6 o5 o8 o9 o7 hE hK h
  have bad : v1 < 0 ∨ nI 7305 ≤ v1 → wpX_next (fun r => wpY_next (fun r' v' => r' = r ∧ i_Rel (k + 4) (nI n, nI s, nI f, nI t, ms, ds, ls, ws, o, p, nI c, nI e, mfA, moA, ser, sd) v') (nI s, nI f, nI t, ms, ds, ls, ws, o, p, nI c, nI e, nI n, kn, ya, mb, dta, ex, inc, ca, da) v1) (nI n, nI s, nI f, nI t, ms, ds, ls, ws, o, p, nI c, nI e, mfA, moA, ser, sd) v1 := by
    intro hx
    unfold wpX_next wpY_next
    dsimp only
    exact cr_xis hx (br_t rfl (cr_yis hx (br_t rfl ⟨rfl, I'⟩)))
  rcases pk_ix v1 (n := 7305) (by decide) with hx | hx | ⟨j, hj, rfl⟩
  · exact bad (Or.inl hx)
  · exact bad (Or.inr hx)
  · obtain ⟨r, hX, hY⟩ := cr_next (n := n) (s := s) (f := f) (t := t) (c := c) (e := e) (ms := ms) (ds := ds) (ls := ls) (ws := ws) (o := o) (p := p) (mfA := mfA) (moA := moA) (sd := sd) (ya := ya) (mb := mb) (dta := dta) (ex := ex) (inc := inc) hS (7305 - j) j (by omega)
    refine cr_xid hj (br_f (by decide) ⟨7305 - j + 1, hX _ ?_⟩)
    unfold wpY_next
    dsimp only
    exact cr_yid hj (br_f (by decide) (work _ (fun k' b' a' h1 h2 => ⟨7305 - j + 1, hY _ k' b' a' h2 ⟨rfl, cr_mk hC hD hO hE hS (fun _ => h2)⟩⟩)))
theorem i_vc_previous {k : Nat} {u : SX} {v : SY} (I : i_Rel k u v) (hk : k + 4 ≤ 2048) (v1 : Int32) : wpX_previous (fun r => wpY_previous (fun r' v' => r' = r ∧ i_Rel (k + 4) u v') v v1) u v1 := by
  have I' := I
  obtain ⟨n, s, f, t, c, e, ms, ds, ls, ws, o, p, kn, mfA, moA, ser, sd, ya, mb, dta, ex, inc, ca, da, g, ib, rfl, rfl, hC, hD, hO, hE, hS, hK⟩ := I
  obtain ⟨o1, o2, o3, o4, o5, o6, o7, o8, o9⟩ := id hO
  unfold wpX_previous
  dsimp only
  have work : ∀ post : SY → Prop, (∀ k' b' a', ¬ k' = 0 → (∀ i, i < 7305 → a' i = cr_b (cr_rl sd (cr_se s f t ms ds ls ws o p c e) i)) → post (nI s, nI f, nI t, ms, ds, ls, ws, o, p, nI c, nI e, nI n, k', ya, mb, dta, ex, inc, b', a')) → wpY_work post (nI s, nI f, nI t, ms, ds, ls, ws, o, p, nI c, nI e, nI n, kn, ya, mb, dta, ex, inc, ca, da) := fun post h => cr_ywork hD o1 o2 o3 o4 o6 o5 o8 o9 o7 hE hK h
  have bad : v1 < 0 ∨ nI 7305 ≤ v1 → wpX_previous (fun r => wpY_previous (fun r' v' => r' = r ∧ i_Rel (k + 4) (nI n, nI s, nI f, nI t, ms, ds, ls, ws, o, p, nI c, nI e, mfA, moA, ser, sd) v') (nI s, nI f, nI t, ms, ds, ls, ws, o, p, nI c, nI e, nI n, kn, ya, mb, dta, ex, inc, ca, da) v1) (nI n, nI s, nI f, nI t, ms, ds, ls, ws, o, p, nI c, nI e, mfA, moA, ser, sd) v1 := by
    intro hx
    unfold wpX_previous wpY_previous
    dsimp only
    exact cr_xis hx (br_t rfl (cr_yis hx (br_t rfl ⟨rfl, I'⟩)))
  rcases pk_ix v1 (n := 7305) (by decide) with hx | hx | ⟨j, hj, rfl⟩
  · exact bad (Or.inl hx)
  · exact bad (Or.inr hx)
  · obtain ⟨r, hX, hY⟩ := cr_prev (n := n) (s := s) (f := f) (t := t) (c := c) (e := e) (ms := ms) (ds := ds) (ls := ls) (ws := ws) (o := o) (p := p) (mfA := mfA) (moA := moA) (sd := sd) (ya := ya) (mb := mb) (dta := dta) (ex := ex) (inc := inc) hS (j + 1) (by omega)
    refine cr_xid hj (br_f (by decide) ⟨j + 1 + 1, hX _ ?_⟩)
    unfold wpY_previous
    dsimp only
    exact cr_yid hj (br_f (by decide) (work _ (fun k' b' a' h1 h2 => ⟨j + 1 + 1, hY _ k' b' a' h2 ⟨rfl, cr_mk hC hD hO hE hS (fun _ => h2)⟩⟩)))
theorem i_vc_nth {k : Nat} {u : SX} {v : SY} (I : i_Rel k u v) (hk : k + 4 ≤ 2048) (v1 : Int32) : wpX_nth (fun r => wpY_nth (fun r' v' => r' = r ∧ i_Rel (k + 4) u v') v v1) u v1 := by
  obtain ⟨n, s, f, t, c, e, ms, ds, ls, ws, o, p, kn, mfA, moA, ser, sd, ya, mb, dta, ex, inc, ca, da, g, ib, rfl, rfl, hC, hD, hO, hE, hS, hK⟩ := I
  obtain ⟨o1, o2, o3, o4, o5, o6, o7, o8, o9⟩ := id hO
  unfold wpX_nth
  dsimp only
  have work : ∀ post : SY → Prop, (∀ k' b' a', ¬ k' = 0 → (∀ i, i < 7305 → a' i = cr_b (cr_rl sd (cr_se s f t ms ds ls ws o p c e) i)) → post (nI s, nI f, nI t, ms, ds, ls, ws, o, p, nI c, nI e, nI n, k', ya, mb, dta, ex, inc, b', a')) → wpY_work post (nI s, nI f, nI t, ms, ds, ls, ws, o, p, nI c, nI e, nI n, kn, ya, mb, dta, ex, inc, ca, da) := fun post h => cr_ywork hD o1 o2 o3 o4 o6 o5 o8 o9 o7 hE hK h
  by_cases z : v1 < 0
  · refine ⟨7305 + 1, cr_nthn z hS ?_ 7305 0 0 rfl (by omega)⟩
    unfold wpY_nth
    dsimp only
    refine work _ (fun k' b' a' h1 h2 => ⟨1, ?_⟩)
    rw [wY_nth_8]
    exact br_f (by decide) (br_t z ⟨rfl, cr_mk hC hD hO hE hS (fun _ => h2)⟩)
  · obtain ⟨q, hq, rfl⟩ := nI_of z
    obtain ⟨r, hX, hY⟩ := cr_nth (n := n) (s := s) (f := f) (t := t) (c := c) (e := e) (ms := ms) (ds := ds) (ls := ls) (ws := ws) (o := o) (p := p) (mfA := mfA) (moA := moA) (sd := sd) (ya := ya) (mb := mb) (dta := dta) (ex := ex) (inc := inc) hq hS 7305 0 0 rfl (by omega)
    refine ⟨7305 + 1, hX _ ?_⟩
    unfold wpY_nth
    dsimp only
    exact work _ (fun k' b' a' h1 h2 => ⟨7305 + 1, hY _ k' b' a' h2 ⟨rfl, cr_mk hC hD hO hE hS (fun _ => h2)⟩⟩)
theorem i_vc_between {k : Nat} {u : SX} {v : SY} (I : i_Rel k u v) (hk : k + 4 ≤ 2048) (v1 : Int32) (v2 : Int32) : wpX_between (fun r => wpY_between (fun r' v' => r' = r ∧ i_Rel (k + 4) u v') v v1 v2) u v1 v2 := by
  have I' := I
  obtain ⟨n, s, f, t, c, e, ms, ds, ls, ws, o, p, kn, mfA, moA, ser, sd, ya, mb, dta, ex, inc, ca, da, g, ib, rfl, rfl, hC, hD, hO, hE, hS, hK⟩ := I
  obtain ⟨o1, o2, o3, o4, o5, o6, o7, o8, o9⟩ := id hO
  unfold wpX_between wpY_between
  dsimp only
  have work : ∀ post : SY → Prop, (∀ k' b' a', ¬ k' = 0 → (∀ i, i < 7305 → a' i = cr_b (cr_rl sd (cr_se s f t ms ds ls ws o p c e) i)) → post (nI s, nI f, nI t, ms, ds, ls, ws, o, p, nI c, nI e, nI n, k', ya, mb, dta, ex, inc, b', a')) → wpY_work post (nI s, nI f, nI t, ms, ds, ls, ws, o, p, nI c, nI e, nI n, kn, ya, mb, dta, ex, inc, ca, da) := fun post h => cr_ywork hD o1 o2 o3 o4 o6 o5 o8 o9 o7 hE hK h
  have split1 : ∀ x : Int32, (x < 0 ∨ nI 7305 ≤ x) ∨ ∃ j : Nat, j < 7305 ∧ x = nI j := fun x => by
    rcases pk_ix x (n := 7305) (by decide) with hx | hx | hx
    · exact Or.inl (Or.inl hx)
    · exact Or.inl (Or.inr hx)
    · exact Or.inr hx
  rcases split1 v1 with hx | ⟨j, hj, rfl⟩
  · exact cr_xis hx (br_t rfl (cr_yis hx (br_t rfl ⟨rfl, I'⟩)))
  · refine cr_xid hj (br_f (by decide) ?_)
    rcases split1 v2 with hx | ⟨q, hq, rfl⟩
    · exact cr_xis hx (br_t rfl (cr_yid hj (br_f (by decide) (cr_yis hx (br_t rfl ⟨rfl, I'⟩)))))
    · obtain ⟨r, hX, hY⟩ := cr_btw (n := n) (s := s) (f := f) (t := t) (c := c) (e := e) (ms := ms) (ds := ds) (ls := ls) (ws := ws) (o := o) (p := p) (mfA := mfA) (moA := moA) (sd := sd) (ya := ya) (mb := mb) (dta := dta) (ex := ex) (inc := inc) hq hS 7305 j 0 (by omega) (by omega)
      exact cr_xid hq (br_f (by decide) ⟨7305 + 1, hX _ (cr_yid hj (br_f (by decide) (cr_yid hq (br_f (by decide) (work _ (fun k' b' a' h1 h2 => ⟨7305 + 1, hY _ k' b' a' h2 ⟨rfl, cr_mk hC hD hO hE hS (fun _ => h2)⟩⟩))))))⟩)
theorem i_vc_weekday {k : Nat} {u : SX} {v : SY} (I : i_Rel k u v) (hk : k + 4 ≤ 2048) (v1 : Int32) : wpX_weekday (fun r => wpY_weekday (fun r' => r' = r ∧ i_Rel (k + 4) u v) v v1) u v1 := by
  have I' := I
  obtain ⟨n, s, f, t, c, e, ms, ds, ls, ws, o, p, kn, mfA, moA, ser, sd, ya, mb, dta, ex, inc, ca, da, g, ib, rfl, rfl, hC, hD, hO, hE, hS, hK⟩ := I
  unfold wpX_weekday
  dsimp only
  have bad : v1 < 0 ∨ nI 7305 ≤ v1 → wpX_weekday (fun r => wpY_weekday (fun r' => r' = r ∧ i_Rel (k + 4) (nI n, nI s, nI f, nI t, ms, ds, ls, ws, o, p, nI c, nI e, mfA, moA, ser, sd) (nI s, nI f, nI t, ms, ds, ls, ws, o, p, nI c, nI e, nI n, kn, ya, mb, dta, ex, inc, ca, da)) (nI s, nI f, nI t, ms, ds, ls, ws, o, p, nI c, nI e, nI n, kn, ya, mb, dta, ex, inc, ca, da) v1) (nI n, nI s, nI f, nI t, ms, ds, ls, ws, o, p, nI c, nI e, mfA, moA, ser, sd) v1 := by
    intro hx
    unfold wpX_weekday wpY_weekday
    dsimp only
    exact cr_xis hx (br_t rfl (cr_yis hx (br_t rfl ⟨rfl, I'⟩)))
  rcases pk_ix v1 (n := 7305) (by decide) with hx | hx | ⟨j, hj, rfl⟩
  · exact bad (Or.inl hx)
  · exact bad (Or.inr hx)
  · exact cr_xid hj (br_f (by decide) (cr_xwd hj (cr_ywd hj ⟨rfl, I'⟩)))
end
section
/-! dayOf: X reckons the day, Y looks through all of them -/
def cr_hit (x1 x2 x3 : Int32) (d : Nat) : Prop := nI (cr_mo d / 12 + 2000) = x1 ∧ nI (cr_mo d % 12 + 1) = x2 ∧ nI (cr_dt d) = x3
section
variable {n s f t c e : Nat} {ms ds ls ws o p kn x1 x2 x3 : Int32} {ya mb dta ex inc ca da : Nat → Int32}
theorem cr_ydo {post : Int32 → Prop} {r : Int32} (hD : cr_CY ya mb dta) (hp : post r) : ∀ (k j : Nat), j + k = 7305 → ((r = -2 ∧ ∀ d, j ≤ d → d < 7305 → ¬ cr_hit x1 x2 x3 d) ∨ (∃ D, j ≤ D ∧ D < 7305 ∧ cr_hit x1 x2 x3 D ∧ (∀ d, j ≤ d → d < D → ¬ cr_hit x1 x2 x3 d) ∧ r = nI D)) → wY_dayOf_3 post x1 x2 x3 (nI s) (nI f) (nI t) ms ds ls ws o p (nI c) (nI e) (nI n) kn ya mb dta ex inc ca da (k + 1) (nI j) := by
  intro k
  induction k with
  | zero =>
    intro j hj h
    rw [wY_dayOf_3]
    refine br_t (nI_le (a := 7305) (by omega) (by omega)) ?_
    rcases h with h | ⟨D, h1, h2, h3⟩
    · rw [← h.1]
      exact hp
    · omega
  | succ k ih =>
    intro j hj h
    have hj' : j < 7305 := by omega
    have h75 : ¬ (7305 : Int32) ≤ nI j := nI_ge (b := 7305) hj' (by decide)
    obtain ⟨a1, a2, a3⟩ := hD j hj'
    have hi := cr_in hj'
    have e0 : nI (cr_mo j / 12) + 2000 = nI (cr_mo j / 12 + 2000) := nI_add _ 2000
    have go : ¬ cr_hit x1 x2 x3 j → wY_dayOf_3 post x1 x2 x3 (nI s) (nI f) (nI t) ms ds ls ws o p (nI c) (nI e) (nI n) kn ya mb dta ex inc ca da (k + 1) (nI (j + 1)) := by
      intro hn
      refine ih (j + 1) (by omega) ?_
      rcases h with h | ⟨D, h1, h2, h3, h4, h5⟩
      · exact Or.inl ⟨h.1, fun d hd => h.2 d (by omega)⟩
      · have hDj : D ≠ j := fun z => hn (z ▸ h3)
        exact Or.inr ⟨D, by omega, h2, h3, fun d hd => h4 d (by omega), h5⟩
    rw [wY_dayOf_3]
    dsimp only
    rw [cr_cl hj', a1, a2, a3, e0]
    refine br_f h75 ⟨hi, br_c (fun z1 => ⟨hi, br_c (fun z2 => ⟨hi, br_c (fun z3 => ?_) (fun z3 => nm_r (nI_1 j) (go (fun w => z3 w.2.2)))⟩) (fun z2 => nm_r (nI_1 j) (go (fun w => z2 w.2.1)))⟩) (fun z1 => nm_r (nI_1 j) (go (fun w => z1 w.1)))⟩
    have hh : cr_hit x1 x2 x3 j := ⟨z1, z2, z3⟩
    rcases h with h | ⟨D, h1, h2, h3, h4, h5⟩
    · exact absurd hh (h.2 j (Nat.le_refl _) hj')
    · have hDj : D = j := by
        by_cases w : D = j
        · exact w
        · exact absurd hh (h4 j (Nat.le_refl _) (by omega))
      rw [h5, hDj] at hp
      exact hp
end
theorem cr_hit_iff {y mm q d : Nat} (hd : d < 7305) (hy : y ≤ 19) (hm : mm ≤ 11) (hq : q < 2 ^ 31) : cr_hit (nI (2000 + y)) (nI (mm + 1)) (nI q) d ↔ cr_mo d = y * 12 + mm ∧ cr_dt d = q := by
  have h1 := cr_mo_lt hd
  have h2 := cr_dt_r d
  unfold cr_hit
  rw [nI_eq (by omega) (by omega), nI_eq (by omega) (by omega), nI_eq (by omega) hq]
  omega
theorem i_vc_dayOf {k : Nat} {u : SX} {v : SY} (I : i_Rel k u v) (hk : k + 4 ≤ 2048) (v1 : Int32) (v2 : Int32) (v3 : Int32) : wpX_dayOf (fun r => wpY_dayOf (fun r' => r' = r ∧ i_Rel (k + 4) u v) v v1 v2 v3) u v1 v2 v3 := by
  have I' := I
  obtain ⟨n, s, f, t, c, e, ms, ds, ls, ws, o, p, kn, mfA, moA, ser, sd, ya, mb, dta, ex, inc, ca, da, g, ib, rfl, rfl, hC, hD, hO, hE, hS, hK⟩ := I
  unfold wpX_dayOf wpY_dayOf
  dsimp only
  have none : (∀ d, d < 7305 → ¬ cr_hit v1 v2 v3 d) → ∃ n3, wY_dayOf_3 (fun r' => r' = -2 ∧ i_Rel (k + 4) (nI n, nI s, nI f, nI t, ms, ds, ls, ws, o, p, nI c, nI e, mfA, moA, ser, sd) (nI s, nI f, nI t, ms, ds, ls, ws, o, p, nI c, nI e, nI n, kn, ya, mb, dta, ex, inc, ca, da)) v1 v2 v3 (nI s) (nI f) (nI t) ms ds ls ws o p (nI c) (nI e) (nI n) kn ya mb dta ex inc ca da n3 0 := fun h => ⟨7305 + 1, cr_ydo (r := -2) hD ⟨rfl, I'⟩ 7305 0 rfl (Or.inl ⟨rfl, fun d _ hd => h d hd⟩)⟩
  by_cases z1 : v1 < 2000
  · refine br_t z1 (none (fun d hd w => ?_))
    rw [← w.1] at z1
    exact nI_nlt (b := 2000) (by omega) (by have := cr_mo_lt hd; omega) z1
  refine br_f z1 ?_
  by_cases z2 : 2019 < v1
  · refine br_t z2 (none (fun d hd w => ?_))
    rw [← w.1] at z2
    exact nI_nlt (a := 2019) (by have := cr_mo_lt hd; omega) (by decide) z2
  refine br_f z2 ?_
  by_cases z3 : v2 < 1
  · refine br_t z3 (none (fun d hd w => ?_))
    rw [← w.2.1] at z3
    exact nI_nlt (b := 1) (by omega) (by omega) z3
  refine br_f z3 ?_
  by_cases z4 : v2 ≤ 12
  · refine br_t z4 ?_
    have z1' : ¬ v1 < 0 := fun z => z1 (Int32.lt_trans z (by decide))
    obtain ⟨y0, hy0, rfl⟩ := nI_of2 (x := v1) (M := 2019) (n := 2019) (by decide) z1' (Int32.not_lt.mp z2)
    have hy1 : 2000 ≤ y0 := by
      by_cases w : 2000 ≤ y0
      · exact w
      · exact absurd (nI_lt (b := 2000) (by omega) (by decide)) z1
    obtain ⟨y, rfl⟩ : ∃ y, y0 = 2000 + y := ⟨y0 - 2000, by omega⟩
    have z3' : ¬ v2 < 0 := fun z => z3 (Int32.lt_trans z (by decide))
    obtain ⟨m0, hm0, rfl⟩ := nI_of2 (x := v2) (M := 12) (n := 12) (by decide) z3' z4
    have hm1 : 1 ≤ m0 := by
      by_cases w : 1 ≤ m0
      · exact w
      · exact absurd (nI_lt (b := 1) (by omega) (by decide)) z3
    obtain ⟨mm, rfl⟩ : ∃ mm, m0 = mm + 1 := ⟨m0 - 1, by omega⟩
    have ei : ((nI (2000 + y) - 2000) * 12 + nI (mm + 1)) - 1 = nI (y * 12 + mm) := by
      have e1 : nI (2000 + y) - 2000 = nI (2000 + y - 2000) := pk_sub (b := 2000) (by omega)
      have e2 : nI (2000 + y - 2000) * 12 = nI ((2000 + y - 2000) * 12) := pk_mul _ 12
      have e3 : nI ((2000 + y - 2000) * 12 + (mm + 1)) - 1 = nI ((2000 + y - 2000) * 12 + (mm + 1) - 1) := pk_sub (b := 1) (by omega)
      rw [e1, e2, nI_add, e3]
      exact congrArg nI (by omega)
    refine nm_r ei ?_
    by_cases z5 : v3 < 1
    · refine br_t z5 (none (fun d hd w => ?_))
      rw [← w.2.2] at z5
      have := cr_dt_r d
      exact nI_nlt (b := 1) (by omega) (by omega) z5
    refine br_f z5 ?_
    have z5' : ¬ v3 < 0 := fun z => z5 (Int32.lt_trans z (by decide))
    obtain ⟨q, hq, rfl⟩ := nI_of z5'
    have hq1 : 1 ≤ q := by
      by_cases w : 1 ≤ q
      · exact w
      · exact absurd (nI_lt (b := 1) (by omega) (by decide)) z5
    have hr := cr_ml_r (y * 12 + mm)
    have hs := cr_mf_s (y * 12 + mm)
    have hl := cr_mf_le (show y * 12 + mm + 1 ≤ 240 by omega)
    refine cr_xml (by omega) (pk_le q (cr_ml (y * 12 + mm)) (fun w => ⟨vp_in_nI (by omega) (by decide), ?_⟩) (fun w => none (fun d hd h => ?_)))
    · rw [nI_clamp (n := y * 12 + mm) (by omega), hC.1 _ (by omega), nI_add]
      have e5 : nI (cr_mf (y * 12 + mm) + q) - 1 = nI (cr_mf (y * 12 + mm) + q - 1) := pk_sub (b := 1) (by omega)
      rw [e5]
      have hu : cr_mo (cr_mf (y * 12 + mm) + q - 1) = y * 12 + mm := cr_uniq (by omega) (by omega)
      refine ⟨7305 + 1, cr_ydo (r := nI (cr_mf (y * 12 + mm) + q - 1)) hD ⟨rfl, I'⟩ 7305 0 rfl (Or.inr ⟨cr_mf (y * 12 + mm) + q - 1, by omega, by omega, ?_, fun d _ hd h => ?_, rfl⟩)⟩
      · rw [cr_hit_iff (by omega) (by omega) (by omega) hq]
        refine ⟨hu, ?_⟩
        unfold cr_dt
        rw [hu]
        omega
      · rw [cr_hit_iff (by omega) (by omega) (by omega) hq] at h
        have h1 := h.2
        have h2 := (cr_mo_in d).1
        unfold cr_dt at h1
        rw [h.1] at h1 h2
        omega
    · rw [cr_hit_iff hd (by omega) (by omega) hq] at h
      have h1 := (cr_dt_r d).2.1
      rw [h.1, h.2] at h1
      omega
  · refine br_f z4 (none (fun d hd w => ?_))
    rw [← w.2.1] at z4
    exact z4 (nI_le (b := 12) (by omega) (by decide))
end
