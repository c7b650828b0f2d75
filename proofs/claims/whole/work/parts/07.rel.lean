/-! the relation, and the constructors -/
def cr_OK (n s f t c e : Nat) (p : Int32) : Prop := f ≤ 3 ∧ s < 7305 ∧ 1 ≤ t ∧ t ≤ 20 ∧ c ≤ 500 ∧ e < 7305 ∧ n ≤ 12 ∧ ¬ p < -10 ∧ p ≤ 10
/-- both hold the same rule; X's series and, where Y knows them, Y's days are what the pure functions say -/
def i_Rel (_ : Nat) (u : SX) (v : SY) : Prop := ∃ (n s f t c e : Nat) (ms ds ls ws o p kn : Int32) (mfA moA ser sd ya mb dta ex inc ca da : Nat → Int32) (g : Nat → Nat) (ib : Nat → Bool), u = (nI n, nI s, nI f, nI t, ms, ds, ls, ws, o, p, nI c, nI e, mfA, moA, ser, sd) ∧ v = (nI s, nI f, nI t, ms, ds, ls, ws, o, p, nI c, nI e, nI n, kn, ya, mb, dta, ex, inc, ca, da) ∧ cr_CX mfA moA ∧ cr_CY ya mb dta ∧ cr_OK n s f t c e p ∧ cr_EX n ex inc sd g ib ∧ (∀ i, i < 7305 → ser i = cr_b (cr_se s f t ms ds ls ws o p c e i)) ∧ (¬ kn = 0 → ∀ i, i < 7305 → da i = cr_b (cr_rl sd (cr_se s f t ms ds ls ws o p c e) i))
theorem i_up {k : Nat} {u : SX} {v : SY} (h : i_Rel k u v) : i_Rel (k + 4) u v := h
section
variable {n s f t c e : Nat} {ms ds ls ws o p kn : Int32} {mfA moA ser sd ya mb dta ex inc ca da : Nat → Int32} {g : Nat → Nat} {ib : Nat → Bool}
theorem cr_mk {k : Nat} (h1 : cr_CX mfA moA) (h2 : cr_CY ya mb dta) (h3 : cr_OK n s f t c e p) (h4 : cr_EX n ex inc sd g ib) (h5 : ∀ i, i < 7305 → ser i = cr_b (cr_se s f t ms ds ls ws o p c e i)) (h6 : ¬ kn = 0 → ∀ i, i < 7305 → da i = cr_b (cr_rl sd (cr_se s f t ms ds ls ws o p c e) i)) : i_Rel k (nI n, nI s, nI f, nI t, ms, ds, ls, ws, o, p, nI c, nI e, mfA, moA, ser, sd) (nI s, nI f, nI t, ms, ds, ls, ws, o, p, nI c, nI e, nI n, kn, ya, mb, dta, ex, inc, ca, da) :=
  ⟨n, s, f, t, c, e, ms, ds, ls, ws, o, p, kn, mfA, moA, ser, sd, ya, mb, dta, ex, inc, ca, da, g, ib, rfl, rfl, h1, h2, h3, h4, h5, h6⟩
theorem cr_mk0 {k : Nat} (h1 : cr_CX mfA moA) (h2 : cr_CY ya mb dta) (h3 : cr_OK n s f t c e p) (h4 : cr_EX n ex inc sd g ib) (h5 : ∀ i, i < 7305 → ser i = cr_b (cr_se s f t ms ds ls ws o p c e i)) : i_Rel k (nI n, nI s, nI f, nI t, ms, ds, ls, ws, o, p, nI c, nI e, mfA, moA, ser, sd) (nI s, nI f, nI t, ms, ds, ls, ws, o, p, nI c, nI e, nI n, 0, ya, mb, dta, ex, inc, ca, da) := cr_mk h1 h2 h3 h4 h5 (fun z => absurd rfl z)
end
section
variable {F1 F2 F3 F4 F5 F6 F7 F8 F9 F10 F11 F12 : Int32} {ser sd : Nat → Int32} {post : SX → Prop}
def cr_pm : Nat → Nat
  | 0 => 0
  | j + 1 => cr_mo j
theorem cr_pm_r {j : Nat} (h : j ≤ 7305) : cr_pm j < 240 := by
  cases j with
  | zero => decide
  | succ j => exact cr_mo_lt (by omega)
theorem cr_pm_s (j : Nat) : cr_mo j = if j = cr_mf (cr_pm j + 1) then cr_pm j + 1 else cr_pm j := by
  cases j with
  | zero => decide
  | succ j => rfl
theorem cr_xl38 {mfA : Nat → Int32} (hm : ∀ i, i ≤ 240 → mfA i = nI (cr_mf i)) (hp : ∀ a', cr_CX mfA a' → post (F1, F2, F3, F4, F5, F6, F7, F8, F9, F10, F11, F12, mfA, a', ser, sd)) : ∀ (k j : Nat) (a : Nat → Int32), j + k = 7305 → (∀ i, i < j → a i = nI (cr_mo i)) → wX_layOutMonths_38 post F1 F2 F3 F4 F5 F6 F7 F8 F9 F10 F11 F12 (k + 1) (nI (cr_pm j)) (nI j) mfA a ser sd := by
  intro k
  induction k with
  | zero =>
    intro j a hj h1
    rw [wX_layOutMonths_38]
    exact br_t (nI_le (a := 7305) (by omega) (by omega)) (hp a ⟨hm, fun d hd => h1 d (by omega)⟩)
  | succ k ih =>
    intro j a hj h1
    have hj' : j < 7305 := by omega
    have hr := cr_pm_r (show j ≤ 7305 by omega)
    have hg := cr_mf_le (show cr_pm j + 1 ≤ 240 by omega)
    have hs := cr_pm_s j
    rw [wX_layOutMonths_38]
    dsimp only
    rw [nI_1 (cr_pm j), nI_clamp (n := cr_pm j + 1) (by omega), hm _ (by omega), cr_cl hj']
    have next : ∀ m, m = cr_mo j → wX_layOutMonths_38 post F1 F2 F3 F4 F5 F6 F7 F8 F9 F10 F11 F12 (k + 1) (nI m) (nI (j + 1)) mfA (upd a j (nI m)) ser sd := by
      intro m hm'
      subst hm'
      refine ih (j + 1) _ (by omega) (fun i hi => ?_)
      by_cases z : i = j
      · rw [z, pk_us]
      · rw [pk_un z]
        exact h1 i (by omega)
    refine br_f (nI_ge (b := 7305) hj' (by decide)) ⟨vp_in_nI (by omega) (by decide), pk_eq j (cr_mf (cr_pm j + 1)) (fun z => nm_e ⟨cr_in hj', nm_e (nm_r (nI_1 j) (next _ ?_))⟩) (fun z => ⟨cr_in hj', nm_e (nm_r (nI_1 j) (next _ ?_))⟩)⟩
    · rw [hs, if_pos z]
    · rw [hs, if_neg z]
theorem cr_xl2 {moA : Nat → Int32} (hp : ∀ a' b', cr_CX a' b' → post (F1, F2, F3, F4, F5, F6, F7, F8, F9, F10, F11, F12, a', b', ser, sd)) : ∀ (k j : Nat) (a : Nat → Int32), j + k = 240 → (∀ i, i ≤ j → a i = nI (cr_mf i)) → wX_layOutMonths_2 post F1 F2 F3 F4 F5 F6 F7 F8 F9 F10 F11 F12 (k + 1) (nI j) a moA ser sd := by
  intro k
  induction k with
  | zero =>
    intro j a hj h1
    rw [wX_layOutMonths_2]
    refine br_t (nI_le (a := 240) (by omega) (by omega)) ⟨7305 + 1, ?_⟩
    exact cr_xl38 (fun i hi => h1 i (by omega)) (fun b' hb => hp a b' hb) 7305 0 moA rfl (fun i hi => absurd hi (by omega))
  | succ k ih =>
    intro j a hj h1
    have hj' : j < 240 := by omega
    rw [wX_layOutMonths_2]
    dsimp only
    rw [nI_1 j, nI_clamp (n := j) (by omega), nI_clamp (n := j + 1) (by omega), h1 j (Nat.le_refl _)]
    refine br_f (nI_ge (b := 240) hj' (by decide)) ⟨vp_in_nI (by omega) (by decide), cr_xml (by omega) ⟨vp_in_nI (by omega) (by decide), nm_e (nm_e (ih (j + 1) _ (by omega) (fun i hi => ?_)))⟩⟩
    by_cases z : i = j + 1
    · rw [z, pk_us, nI_add, cr_mf_s]
    · rw [pk_un z]
      exact h1 i (by omega)
theorem cr_xrs {mfA moA : Nat → Int32} (hp : ∀ a', (∀ i, i < 7305 → a' i = 0) → post (0, F2, F3, F4, F5, F6, F7, F8, F9, F10, F11, F12, mfA, moA, ser, a')) : ∀ (k j : Nat) (a : Nat → Int32), j + k = 7305 → (∀ i, i < j → a i = 0) → wX_resetRule_59 post F1 F2 F3 F4 F5 F6 F7 F8 F9 F10 F11 F12 (k + 1) (nI j) mfA moA ser a := by
  intro k
  induction k with
  | zero =>
    intro j a hj h1
    rw [wX_resetRule_59]
    exact br_t (nI_le (a := 7305) (by omega) (by omega)) (hp a (fun d hd => h1 d (by omega)))
  | succ k ih =>
    intro j a hj h1
    have hj' : j < 7305 := by omega
    rw [wX_resetRule_59]
    dsimp only
    rw [cr_cl hj']
    refine br_f (nI_ge (b := 7305) hj' (by decide)) ⟨cr_in hj', nm_e (nm_r (nI_1 j) (ih (j + 1) _ (by omega) (fun i hi => ?_)))⟩
    by_cases z : i = j
    · rw [z, pk_us]
      rfl
    · rw [pk_un z]
      exact h1 i (by omega)
/-- the reset rule, its series built: X's state at the start and after clear -/
theorem cr_xreset {mfA moA : Nat → Int32} (hC : cr_CX mfA moA) (hp : ∀ a' b', (∀ i, i < 7305 → a' i = cr_b (cr_se 0 0 1 0 0 0 0 0 0 0 7304 i)) → (∀ i, i < 7305 → b' i = 0) → post (0, 0, 0, 1, 0, 0, 0, 0, 0, 0, 0, 7304, mfA, moA, a', b')) : wpX_resetRule (fun u => wpX_buildSeries post u) (F1, F2, F3, F4, F5, F6, F7, F8, F9, F10, F11, F12, mfA, moA, ser, sd) := by
  unfold wpX_resetRule
  dsimp only
  refine ⟨7305 + 1, cr_xrs (fun b' hb => ?_) 7305 0 sd rfl (fun i hi => absurd hi (by omega))⟩
  exact cr_xbuild (n := 0) (s := 0) (f := 0) (t := 1) (c := 0) (e := 7304) hC (by decide) (by decide) (by decide) (by decide) (by decide) (by decide) (fun a' ha => hp a' b' ha hb)
theorem cr_EX0 {ex inc : Nat → Int32} {g : Nat → Nat} {ib : Nat → Bool} (h : ∀ i, i < 7305 → sd i = 0) : cr_EX 0 ex inc sd g ib :=
  ⟨fun i hi => absurd hi (by omega), fun i j hi _ _ => absurd hi (by omega), fun d hd _ => h d hd⟩
end
section
variable {G1 G2 G3 G4 G5 G6 G7 G8 G9 G10 G11 G12 G13 : Int32} {ex inc ca da : Nat → Int32} {post : SY → Prop}
theorem cr_yi86 (hp : ∀ ya mb dta, cr_CY ya mb dta → post (G1, G2, G3, G4, G5, G6, G7, G8, G9, G10, G11, G12, G13, ya, mb, dta, ex, inc, ca, da)) : ∀ (k j : Nat) (ya mb dta : Nat → Int32), j + k = 7305 → (∀ d, d < j → ya d = nI (cr_mo d / 12) ∧ mb d = nI (cr_mo d % 12 + 1) ∧ dta d = nI (cr_dt d)) → wY_init_86 post G1 G2 G3 G4 G5 G6 G7 G8 G9 G10 G11 G12 G13 (k + 1) (nI (cr_mo j / 12)) (nI (cr_mo j % 12 + 1)) (nI (cr_dt j)) (nI j) ya mb dta ex inc ca da := by
  intro k
  induction k with
  | zero =>
    intro j ya mb dta hj h1
    rw [wY_init_86]
    exact br_t (nI_le (a := 7305) (by omega) (by omega)) (hp ya mb dta (fun d hd => h1 d (by omega)))
  | succ k ih =>
    intro j ya mb dta hj h1
    have hj' : j < 7305 := by omega
    have hm := cr_mo_lt hj'
    have hi := cr_mo_in j
    have hl := cr_mf_s (cr_mo j)
    have hlr := cr_ml_r (cr_mo j)
    have hdr := cr_dt_r j
    have hs := cr_mo_s j
    have e1 : cr_dt j = j - cr_mf (cr_mo j) + 1 := rfl
    have e2 : cr_dt (j + 1) = j + 1 - cr_mf (cr_mo (j + 1)) + 1 := rfl
    rw [wY_init_86]
    dsimp only
    rw [cr_cl hj', nI_1 (cr_dt j)]
    refine br_f (nI_ge (b := 7305) hj' (by decide)) ⟨cr_in hj', nm_e ⟨cr_in hj', nm_e ⟨cr_in hj', nm_e (nm_e (cr_yle (i := cr_mo j) ?_ (by omega)))⟩⟩⟩
    have next : ∀ a b c' : Nat, a = cr_mo (j + 1) / 12 → b = cr_mo (j + 1) % 12 + 1 → c' = cr_dt (j + 1) → wY_init_86 post G1 G2 G3 G4 G5 G6 G7 G8 G9 G10 G11 G12 G13 (k + 1) (nI a) (nI b) (nI c') (nI (j + 1)) (upd ya j (nI (cr_mo j / 12))) (upd mb j (nI (cr_mo j % 12 + 1))) (upd dta j (nI (cr_dt j))) ex inc ca da := by
      intro a b c' ha hb hc
      subst ha hb hc
      refine ih (j + 1) _ _ _ (by omega) (fun i hi => ?_)
      by_cases z : i = j
      · rw [z, pk_us, pk_us, pk_us]
        exact ⟨rfl, rfl, rfl⟩
      · rw [pk_un z, pk_un z, pk_un z]
        exact h1 i (by omega)
    unfold wY_init_136
    refine pk_le (cr_dt j + 1) (cr_ml (cr_mo j)) (fun z => ?_) (fun z => nm_r (nI_1 _) ?_)
    · have e3 : cr_mo (j + 1) = cr_mo j := by rw [hs, if_neg (by omega)]
      rw [e3] at e2 next
      exact br_t (nI_le (b := 12) (by omega) (by decide)) (nm_r (nI_1 j) (next _ _ _ rfl rfl (by omega)))
    · have e3 : cr_mo (j + 1) = cr_mo j + 1 := by rw [hs, if_pos (by omega)]
      rw [e3] at e2 next
      refine pk_le (cr_mo j % 12 + 1 + 1) 12 (fun w => nm_r (nI_1 j) (next (cr_mo j / 12) (cr_mo j % 12 + 1 + 1) 1 (by omega) (by omega) (by omega))) (fun w => nm_r (nI_1 _) (nm_r (nI_1 j) (next (cr_mo j / 12 + 1) 1 1 (by omega) (by omega) (by omega))))
end
theorem cr_OK0 : cr_OK 0 0 0 1 0 7304 0 := ⟨by decide, by decide, by decide, by decide, by decide, by decide, by decide, by decide, by decide⟩
theorem i_vc0 : wpX_init (fun u => wpY_init (fun v => i_Rel 0 u v)) := by
  unfold wpX_init wpX_layOutMonths
  dsimp only
  refine ⟨240 + 1, cr_xl2 (fun a b hC => ?_) 240 0 _ rfl (fun i hi => ?_)⟩
  · refine cr_xreset hC (fun a' b' ha hb => ?_)
    unfold wpY_init
    refine ⟨7305 + 1, cr_yi86 (fun ya mb dta hD => ?_) 7305 0 _ _ _ rfl (fun i hi => absurd hi (by omega))⟩
    exact cr_mk0 (n := 0) (s := 0) (f := 0) (t := 1) (c := 0) (e := 7304) (ms := 0) (ds := 0) (ls := 0) (ws := 0) (o := 0) (p := 0) (g := fun _ => 0) (ib := fun _ => true) hC hD cr_OK0 (cr_EX0 hb) ha
  · rw [show i = 0 by omega]
    rfl
