/-! extra: X's marks, a day each, against Y's list of at most twelve -/
section
variable {n : Nat} {ex inc sd : Nat → Int32} {g : Nat → Nat} {ib : Nat → Bool} {d : Nat}
theorem cr_EXnop {sd' : Nat → Int32} (h : cr_EX n ex inc sd g ib) (hs : ∀ i, i < 7305 → sd' i = sd i) : cr_EX n ex inc sd' g ib :=
  ⟨fun i hi => ⟨(h.1 i hi).1, (h.1 i hi).2.1, (h.1 i hi).2.2.1, by rw [hs _ (h.1 i hi).1]; exact (h.1 i hi).2.2.2⟩, h.2.1, fun d hd z => by rw [hs d hd]; exact h.2.2 d hd z⟩
theorem cr_EXadd {b : Bool} {x : Int32} (h : cr_EX n ex inc sd g ib) (hd : d < 7305) (hz : ∀ i, i < n → g i ≠ d) (hx : x = if b then 1 else 2) : cr_EX (n + 1) (upd ex n (nI d)) (upd inc n (cr_b b)) (upd sd d x) (fun i => if i = n then d else g i) (fun i => if i = n then b else ib i) := by
  refine ⟨fun i hi => ?_, fun i j hi hj e => ?_, fun q hq z => ?_⟩
  · by_cases w : i = n
    · subst w
      simp only [if_true, pk_us]
      exact ⟨hd, True.intro, True.intro, hx⟩
    · have hi' : i < n := by omega
      obtain ⟨a1, a2, a3, a4⟩ := h.1 i hi'
      simp only [if_neg w, pk_un w]
      rw [pk_un (hz i hi')]
      exact ⟨a1, a2, a3, a4⟩
  · dsimp only at e
    by_cases w : i = n
    · by_cases w' : j = n
      · omega
      · rw [if_pos w, if_neg w'] at e
        exact absurd e.symm (hz j (by omega))
    · by_cases w' : j = n
      · rw [if_neg w, if_pos w'] at e
        exact absurd e (hz i (by omega))
      · rw [if_neg w, if_neg w'] at e
        exact h.2.1 i j (by omega) (by omega) e
  · have z1 := z n (by omega)
    simp only [if_true] at z1
    rw [pk_un (fun k => z1 k.symm)]
    refine h.2.2 q hq (fun i hi k => ?_)
    have z2 := z i (by omega)
    dsimp only at z2
    rw [if_neg (by omega)] at z2
    exact z2 k
theorem cr_EXset {at' : Nat} {b : Bool} {x : Int32} (h : cr_EX n ex inc sd g ib) (ha : at' < n) (hd : g at' = d) (hx : x = if b then 1 else 2) : cr_EX n (upd ex at' (nI d)) (upd inc at' (cr_b b)) (upd sd d x) g (fun i => if i = at' then b else ib i) := by
  refine ⟨fun i hi => ?_, h.2.1, fun q hq z => ?_⟩
  · obtain ⟨a1, a2, a3, a4⟩ := h.1 i hi
    by_cases w : i = at'
    · subst w
      simp only [if_true, pk_us]
      rw [hd, pk_us]
      exact ⟨hd ▸ a1, rfl, True.intro, hx⟩
    · simp only [if_neg w, pk_un w]
      rw [pk_un (fun k => w (h.2.1 i at' hi ha (k.trans hd.symm)))]
      exact ⟨a1, a2, a3, a4⟩
  · rw [pk_un (fun k => z at' ha (hd.trans k.symm))]
    exact h.2.2 q hq z
theorem cr_EXdel {at' : Nat} (h : cr_EX n ex inc sd g ib) (ha : at' < n) (hd : g at' = d) : cr_EX (n - 1) (upd ex at' (ex (n - 1))) (upd inc at' (inc (n - 1))) (upd sd d 0) (fun i => if i = at' then g (n - 1) else g i) (fun i => if i = at' then ib (n - 1) else ib i) := by
  refine ⟨fun i hi => ?_, fun i j hi hj e => ?_, fun q hq z => ?_⟩
  · by_cases w : i = at'
    · subst w
      obtain ⟨a1, a2, a3, a4⟩ := h.1 (n - 1) (by omega)
      simp only [if_true, pk_us]
      rw [pk_un (fun k => absurd (h.2.1 (n - 1) i (by omega) ha (k.trans hd.symm)) (by omega))]
      exact ⟨a1, a2, a3, a4⟩
    · obtain ⟨a1, a2, a3, a4⟩ := h.1 i (by omega)
      simp only [if_neg w, pk_un w]
      rw [pk_un (fun k => w (h.2.1 i at' (by omega) ha (k.trans hd.symm)))]
      exact ⟨a1, a2, a3, a4⟩
  · dsimp only at e
    by_cases w : i = at'
    · by_cases w' : j = at'
      · omega
      · rw [if_pos w, if_neg w'] at e
        have := h.2.1 (n - 1) j (by omega) (by omega) e
        omega
    · by_cases w' : j = at'
      · rw [if_neg w, if_pos w'] at e
        have := h.2.1 i (n - 1) (by omega) (by omega) e
        omega
      · rw [if_neg w, if_neg w'] at e
        exact h.2.1 i j (by omega) (by omega) e
  · by_cases w : q = d
    · rw [w, pk_us]
    · rw [pk_un w]
      refine h.2.2 q hq (fun i hi k => ?_)
      by_cases w1 : i = at'
      · rw [w1, hd] at k
        exact w k.symm
      · by_cases w2 : i = n - 1
        · have z2 := z at' (by omega)
          simp only [if_true] at z2
          rw [w2] at k
          exact z2 k
        · have z2 := z i (by omega)
          dsimp only at z2
          rw [if_neg w1] at z2
          exact z2 k
end
section
variable {n s f t c e d : Nat} {ms ds ls ws o p kn v2 : Int32} {mfA moA ser sd ya mb dta ex inc ca da : Nat → Int32} {g : Nat → Nat} {ib : Nat → Bool}
theorem cr_ye12 {post : Int32 → SY → Prop} (hn : n ≤ 12) (hd : d < 7305) (hE : cr_EX n ex inc sd g ib) (h : ∀ at', (at' = n ∧ (∀ i, i < n → g i ≠ d)) ∨ (at' < n ∧ g at' = d) → wY_extra_36 post (nI d) v2 (nI at') (nI s) (nI f) (nI t) ms ds ls ws o p (nI c) (nI e) (nI n) kn ya mb dta ex inc ca da) : ∀ (k j : Nat), j + k = n → (∀ i, i < j → g i ≠ d) → wY_extra_12 post (nI d) v2 (nI s) (nI f) (nI t) ms ds ls ws o p (nI c) (nI e) (nI n) kn ya mb dta ex inc ca da (k + 1) (nI j) := by
  intro k
  induction k with
  | zero =>
    intro j hj h1
    have hjn : j = n := by omega
    rw [wY_extra_12]
    exact br_t (nI_le (by omega) (by omega)) (h j (Or.inl ⟨hjn, fun i hi => h1 i (by omega)⟩))
  | succ k ih =>
    intro j hj h1
    obtain ⟨a1, a2, a3, a4⟩ := hE.1 j (by omega)
    rw [wY_extra_12]
    dsimp only
    rw [nI_clamp (n := j) (by omega), a2]
    refine br_f (nI_ge (by omega) (by omega)) ⟨vp_in_nI (by omega) (by decide), pk_eq (g j) d (fun z => h j (Or.inr ⟨by omega, z⟩)) (fun z => nm_r (nI_1 j) (ih (j + 1) (by omega) (fun i hi => ?_)))⟩
    by_cases w : i = j
    · rw [w]; exact z
    · exact h1 i (by omega)
theorem cr_n8 : vp_nar .byte (1 : Int32).toInt8.toInt32 = 1 ∧ vp_nar .byte (2 : Int32).toInt8.toInt32 = 2 ∧ vp_nar .byte (0 : Int32).toInt8.toInt32 = 0 := ⟨rfl, rfl, rfl⟩
/-- X from the mark as it was: b the mark before, w the mark that is to be -/
theorem cr_xe78 {post : Int32 → SX → Prop} {x z0 y : Int32} (hd : d < 7305) (hy : vp_nar .byte z0.toInt8.toInt32 = y) (h : post x (x, nI s, nI f, nI t, ms, ds, ls, ws, o, p, nI c, nI e, mfA, moA, ser, upd sd d y)) : wX_extra_78 post x z0 (nI d) (nI n) (nI s) (nI f) (nI t) ms ds ls ws o p (nI c) (nI e) mfA moA ser sd := by
  unfold wX_extra_78
  rw [cr_cl hd, hy]
  exact ⟨cr_in hd, nm_e h⟩
theorem cr_xe39 {post : Int32 → SX → Prop} {m : Nat} {x3 z0 y : Int32} (hd : d < 7305) (hm : (nI n - x3) + z0 = nI m) (hb : m ≤ 13) (hy : vp_nar .byte (if z0 = 1 then v2 else 0).toInt8.toInt32 = y) (h0 : m ≤ 12 → post (nI m) (nI m, nI s, nI f, nI t, ms, ds, ls, ws, o, p, nI c, nI e, mfA, moA, ser, upd sd d y)) (h1 : m = 13 → post (-3) (nI n, nI s, nI f, nI t, ms, ds, ls, ws, o, p, nI c, nI e, mfA, moA, ser, sd)) : wX_extra_39 post (nI d) v2 x3 z0 (nI n) (nI s) (nI f) (nI t) ms ds ls ws o p (nI c) (nI e) mfA moA ser sd := by
  unfold wX_extra_39
  refine nm_r hm (pk_le m 12 (fun g => ?_) (fun g => h1 (by omega)))
  by_cases z : z0 = 1
  · rw [if_pos z] at hy
    exact br_t z (cr_xe78 hd hy (h0 g))
  · rw [if_neg z] at hy
    exact br_f z (cr_xe78 hd hy (h0 g))
theorem cr_xe23 {post : Int32 → SX → Prop} {m : Nat} {x3 y : Int32} (hd : d < 7305) (hm : (nI n - x3) + (if v2 = 1 ∨ v2 = 2 then 1 else 0) = nI m) (hb : m ≤ 13) (hy : (if v2 = 1 then (1 : Int32) else if v2 = 2 then 2 else 0) = y) (h0 : m ≤ 12 → post (nI m) (nI m, nI s, nI f, nI t, ms, ds, ls, ws, o, p, nI c, nI e, mfA, moA, ser, upd sd d y)) (h1 : m = 13 → post (-3) (nI n, nI s, nI f, nI t, ms, ds, ls, ws, o, p, nI c, nI e, mfA, moA, ser, sd)) : wX_extra_23 post (nI d) v2 x3 (nI n) (nI s) (nI f) (nI t) ms ds ls ws o p (nI c) (nI e) mfA moA ser sd := by
  unfold wX_extra_23 wX_extra_34
  by_cases z1 : v2 = 1
  · rw [if_pos (Or.inl z1)] at hm
    refine br_t z1 (cr_xe39 (m := m) (y := y) hd hm hb ?_ h0 h1)
    rw [if_pos z1] at hy
    rw [if_pos rfl, z1, ← hy]
    rfl
  · by_cases z2 : v2 = 2
    · rw [if_pos (Or.inr z2)] at hm
      refine br_f z1 (br_t z2 (cr_xe39 (m := m) (y := y) hd hm hb ?_ h0 h1))
      rw [if_neg z1, if_pos z2] at hy
      rw [if_pos rfl, z2, ← hy]
      rfl
    · rw [if_neg (fun k => k.elim z1 z2)] at hm
      refine br_f z1 (br_f z2 (cr_xe39 (m := m) (y := y) hd hm hb ?_ h0 h1))
      rw [if_neg z1, if_neg z2] at hy
      rw [if_neg (by decide), ← hy]
      rfl
theorem cr_vc_extra {k : Nat} {v1 : Int32} (hC : cr_CX mfA moA) (hD : cr_CY ya mb dta) (hO : cr_OK n s f t c e p) (hE : cr_EX n ex inc sd g ib) (hS : ∀ i, i < 7305 → ser i = cr_b (cr_se s f t ms ds ls ws o p c e i)) (hK : ¬ kn = 0 → ∀ i, i < 7305 → da i = cr_b (cr_rl sd (cr_se s f t ms ds ls ws o p c e) i)) (hd : d < 7305) : wX_extra_23 (fun r u' => wpY_extra (fun r' v' => r' = r ∧ i_Rel k u' v') (nI s, nI f, nI t, ms, ds, ls, ws, o, p, nI c, nI e, nI n, kn, ya, mb, dta, ex, inc, ca, da) (nI d) v2) (nI d) v2 (if sd d = 0 then 0 else 1) (nI n) (nI s) (nI f) (nI t) ms ds ls ws o p (nI c) (nI e) mfA moA ser sd := by
  obtain ⟨o1, o2, o3, o4, o5, o6, o7, o8, o9⟩ := hO
  have found : ∀ at', at' < n → g at' = d → ¬ sd d = 0 := by
    intro at' ha hg
    have := (hE.1 at' ha).2.2.2
    rw [hg] at this
    rw [this]
    cases ib at' <;> decide
  have go : ∀ post : Int32 → SY → Prop, (∀ at', (at' = n ∧ (∀ i, i < n → g i ≠ d)) ∨ (at' < n ∧ g at' = d) → wY_extra_36 post (nI d) v2 (nI at') (nI s) (nI f) (nI t) ms ds ls ws o p (nI c) (nI e) (nI n) kn ya mb dta ex inc ca da) → wpY_extra post (nI s, nI f, nI t, ms, ds, ls, ws, o, p, nI c, nI e, nI n, kn, ya, mb, dta, ex, inc, ca, da) (nI d) v2 := by
    intro post h
    unfold wpY_extra
    dsimp only
    exact cr_yid hd (br_f (by decide) ⟨n + 1, cr_ye12 o7 hd hE h n 0 (by omega) (fun i hi => absurd hi (by omega))⟩)
  by_cases z : sd d = 0
  · -- not in the list
    have nf : ∀ at', (at' = n ∧ (∀ i, i < n → g i ≠ d)) ∨ (at' < n ∧ g at' = d) → at' = n ∧ (∀ i, i < n → g i ≠ d) := by
      intro at' h
      rcases h with h | h
      · exact h
      · exact absurd z (found at' h.1 h.2)
    rw [if_pos z]
    by_cases zh : v2 = 1 ∨ v2 = 2
    · refine cr_xe23 (m := n + 1) hd (by rw [if_pos zh, Int32.sub_zero, nI_1]) (by omega) rfl (fun h12 => go _ (fun at' h => ?_)) (fun h13 => go _ (fun at' h => ?_))
      · obtain ⟨rfl, hz⟩ := nf at' h
        have e46 : wY_extra_46 (fun r' v' => r' = nI (at' + 1) ∧ i_Rel k (nI (at' + 1), nI s, nI f, nI t, ms, ds, ls, ws, o, p, nI c, nI e, mfA, moA, ser, upd sd d (if v2 = 1 then (1 : Int32) else if v2 = 2 then 2 else 0)) v') (nI d) v2 (nI at') (nI s) (nI f) (nI t) ms ds ls ws o p (nI c) (nI e) (nI at') kn ya mb dta ex inc ca da := by
          unfold wY_extra_46
          refine br_f (fun q => ?_) ⟨vp_in_nI (by omega) (by decide), nm_r (by rw [nI_clamp (by omega)]) ?_⟩
          · have : nI at' = nI 12 := q
            rw [nI_eq (by omega) (by omega)] at this
            omega
          · unfold wY_extra_77
            rw [nI_clamp (n := at') (by omega), nI_1]
            by_cases z1 : v2 = 1
            · refine br_t z1 ⟨vp_in_nI (by omega) (by decide), nm_r (show _ = upd inc at' (cr_b true) from rfl) (br_t rfl (nm_e ⟨rfl, ?_⟩))⟩
              exact cr_mk0 hC hD ⟨o1, o2, o3, o4, o5, o6, by omega, o8, o9⟩ (cr_EXadd hE hd hz (by rw [if_pos z1]; rfl)) hS
            · have z2 : v2 = 2 := zh.resolve_left z1
              refine br_f z1 ⟨vp_in_nI (by omega) (by decide), nm_r (show _ = upd inc at' (cr_b false) from rfl) (br_t rfl (nm_e ⟨rfl, ?_⟩))⟩
              exact cr_mk0 hC hD ⟨o1, o2, o3, o4, o5, o6, by omega, o8, o9⟩ (cr_EXadd hE hd hz (by rw [if_neg z1, if_pos z2]; rfl)) hS
        unfold wY_extra_36
        by_cases z1 : v2 = 1
        · exact br_t z1 e46
        · exact br_f z1 (br_t (zh.resolve_left z1) e46)
      · obtain ⟨rfl, hz⟩ := nf at' h
        have e46 : wY_extra_46 (fun r' v' => r' = -3 ∧ i_Rel k (nI at', nI s, nI f, nI t, ms, ds, ls, ws, o, p, nI c, nI e, mfA, moA, ser, sd) v') (nI d) v2 (nI at') (nI s) (nI f) (nI t) ms ds ls ws o p (nI c) (nI e) (nI at') kn ya mb dta ex inc ca da := by
          unfold wY_extra_46
          refine br_t (by rw [show at' = 12 by omega]; rfl) ⟨rfl, cr_mk hC hD ⟨o1, o2, o3, o4, o5, o6, o7, o8, o9⟩ hE hS hK⟩
        unfold wY_extra_36
        by_cases z1 : v2 = 1
        · exact br_t z1 e46
        · exact br_f z1 (br_t (zh.resolve_left z1) e46)
    · have z1 : ¬ v2 = 1 := fun q => zh (Or.inl q)
      have z2 : ¬ v2 = 2 := fun q => zh (Or.inr q)
      refine cr_xe23 (m := n) (y := 0) hd (by rw [if_neg zh, Int32.sub_zero, Int32.add_zero]) (by omega) (by rw [if_neg z1, if_neg z2]) (fun h12 => go _ (fun at' h => ?_)) (fun h13 => absurd h13 (by omega))
      obtain ⟨rfl, hz⟩ := nf at' h
      unfold wY_extra_36
      refine br_f z1 (br_f z2 (br_t (nI_le (Nat.le_refl _) (by omega)) ⟨rfl, ?_⟩))
      refine cr_mk0 hC hD ⟨o1, o2, o3, o4, o5, o6, o7, o8, o9⟩ (cr_EXnop hE (fun i hi => ?_)) hS
      by_cases w : i = d
      · rw [w, pk_us, z]
      · rw [pk_un w]
  · -- in the list
    have nf : ∀ at', (at' = n ∧ (∀ i, i < n → g i ≠ d)) ∨ (at' < n ∧ g at' = d) → at' < n ∧ g at' = d := by
      intro at' h
      rcases h with h | h
      · exact absurd (hE.2.2 d hd h.2) z
      · exact h
    rw [if_neg z]
    have hn0 : 0 < n := by
      cases n with
      | zero => exact absurd (hE.2.2 d hd (fun i hi => absurd hi (by omega))) z
      | succ n => omega
    have em : nI n - 1 = nI (n - 1) := pk_sub (b := 1) (by omega)
    by_cases zh : v2 = 1 ∨ v2 = 2
    · refine cr_xe23 (m := n) hd (by rw [if_pos zh, em, nI_1]; exact congrArg nI (by omega)) (by omega) rfl (fun h12 => go _ (fun at' h => ?_)) (fun h13 => absurd h13 (by omega))
      obtain ⟨ha, hg⟩ := nf at' h
      have e46 : wY_extra_46 (fun r' v' => r' = nI n ∧ i_Rel k (nI n, nI s, nI f, nI t, ms, ds, ls, ws, o, p, nI c, nI e, mfA, moA, ser, upd sd d (if v2 = 1 then (1 : Int32) else if v2 = 2 then 2 else 0)) v') (nI d) v2 (nI at') (nI s) (nI f) (nI t) ms ds ls ws o p (nI c) (nI e) (nI n) kn ya mb dta ex inc ca da := by
        unfold wY_extra_46
        refine br_f (fun q => ?_) ⟨vp_in_nI (by omega) (by decide), nm_r (by rw [nI_clamp (by omega)]) ?_⟩
        · have : nI at' = nI 12 := q
          rw [nI_eq (by omega) (by omega)] at this
          omega
        · unfold wY_extra_77
          have ne : ¬ nI at' = nI n := by
            rw [nI_eq (by omega) (by omega)]
            omega
          rw [nI_clamp (n := at') (by omega)]
          by_cases z1 : v2 = 1
          · refine br_t z1 ⟨vp_in_nI (by omega) (by decide), nm_r (show _ = upd inc at' (cr_b true) from rfl) (br_f ne ⟨rfl, ?_⟩)⟩
            exact cr_mk0 hC hD ⟨o1, o2, o3, o4, o5, o6, o7, o8, o9⟩ (cr_EXset hE ha hg (by rw [if_pos z1]; rfl)) hS
          · have z2 : v2 = 2 := zh.resolve_left z1
            refine br_f z1 ⟨vp_in_nI (by omega) (by decide), nm_r (show _ = upd inc at' (cr_b false) from rfl) (br_f ne ⟨rfl, ?_⟩)⟩
            exact cr_mk0 hC hD ⟨o1, o2, o3, o4, o5, o6, o7, o8, o9⟩ (cr_EXset hE ha hg (by rw [if_neg z1, if_pos z2]; rfl)) hS
      unfold wY_extra_36
      by_cases z1 : v2 = 1
      · exact br_t z1 e46
      · exact br_f z1 (br_t (zh.resolve_left z1) e46)
    · have z1 : ¬ v2 = 1 := fun q => zh (Or.inl q)
      have z2 : ¬ v2 = 2 := fun q => zh (Or.inr q)
      refine cr_xe23 (m := n - 1) (y := 0) hd (by rw [if_neg zh, em, Int32.add_zero]) (by omega) (by rw [if_neg z1, if_neg z2]) (fun h12 => go _ (fun at' h => ?_)) (fun h13 => absurd h13 (by omega))
      obtain ⟨ha, hg⟩ := nf at' h
      unfold wY_extra_36
      refine br_f z1 (br_f z2 (br_f (nI_ge ha (by omega)) (nm_r em ?_)))
      rw [nI_clamp (n := at') (by omega), nI_clamp (n := n - 1) (by omega)]
      have hinc : vp_nar .boolean (inc (n - 1)) = inc (n - 1) := by
        rw [(hE.1 (n - 1) (by omega)).2.2.1]
        exact cr_nz _
      rw [hinc]
      refine ⟨vp_in_nI (by omega) (by decide), vp_in_nI (by omega) (by decide), nm_e ⟨vp_in_nI (by omega) (by decide), vp_in_nI (by omega) (by decide), nm_e ⟨rfl, ?_⟩⟩⟩
      exact cr_mk0 hC hD ⟨o1, o2, o3, o4, o5, o6, by omega, o8, o9⟩ (cr_EXdel hE ha hg) hS
end
theorem i_vc_extra {k : Nat} {u : SX} {v : SY} (I : i_Rel k u v) (hk : k + 4 ≤ 2048) (v1 : Int32) (v2 : Int32) : wpX_extra (fun r u' => wpY_extra (fun r' v' => r' = r ∧ i_Rel (k + 4) u' v') v v1 v2) u v1 v2 := by
  have I' := I
  obtain ⟨n, s, f, t, c, e, ms, ds, ls, ws, o, p, kn, mfA, moA, ser, sd, ya, mb, dta, ex, inc, ca, da, g, ib, rfl, rfl, hC, hD, hO, hE, hS, hK⟩ := I
  unfold wpX_extra
  dsimp only
  have bad : v1 < 0 ∨ nI 7305 ≤ v1 → wpX_extra (fun r u' => wpY_extra (fun r' v' => r' = r ∧ i_Rel (k + 4) u' v') (nI s, nI f, nI t, ms, ds, ls, ws, o, p, nI c, nI e, nI n, kn, ya, mb, dta, ex, inc, ca, da) v1 v2) (nI n, nI s, nI f, nI t, ms, ds, ls, ws, o, p, nI c, nI e, mfA, moA, ser, sd) v1 v2 := by
    intro hx
    unfold wpX_extra wpY_extra
    dsimp only
    exact cr_xis hx (br_t rfl (cr_yis hx (br_t rfl ⟨rfl, I'⟩)))
  rcases pk_ix v1 (n := 7305) (by decide) with hx | hx | ⟨j, hj, rfl⟩
  · exact bad (Or.inl hx)
  · exact bad (Or.inr hx)
  · have main := cr_vc_extra (k := k + 4) (v1 := 0) (v2 := v2) (ca := ca) hC hD hO hE hS hK hj
    rw [cr_cl hj]
    refine cr_xid hj (br_f (by decide) ⟨cr_in hj, br_c (fun z => ?_) (fun z => ?_)⟩)
    · rw [if_pos z] at main
      exact main
    · rw [if_neg z] at main
      exact main
