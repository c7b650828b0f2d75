/-! the calls that ask -/
section
variable {n s f t c e d : Nat} {ms ds ls ws o p kn : Int32} {mfA moA ser sd ya mb dta ex inc ca da : Nat → Int32} {sr rl : Nat → Bool}
theorem cr_xrl {post : Int32 → Prop} (hd : d < 7305) (hS : ∀ i, i < 7305 → ser i = cr_b (sr i)) (h : post (cr_b (cr_rl sd sr d))) : wpX_isOfRule post (nI n, nI s, nI f, nI t, ms, ds, ls, ws, o, p, nI c, nI e, mfA, moA, ser, sd) (nI d) := by
  unfold wpX_isOfRule
  dsimp only
  unfold cr_rl at h
  have hi := cr_in hd
  rw [cr_cl hd, hS d hd]
  by_cases z1 : sd d = 1
  · rw [if_pos z1] at h
    exact ⟨hi, br_t z1 h⟩
  · rw [if_neg z1] at h
    by_cases z2 : sd d = 0
    · rw [if_pos z2] at h
      refine ⟨hi, br_f z1 ⟨hi, br_t z2 ⟨hi, cr_sel (fun z => ?_) (fun z => ?_)⟩⟩⟩
      · rw [z] at h; exact h
      · rw [z] at h; exact h
    · rw [if_neg z2] at h
      exact ⟨hi, br_f z1 ⟨hi, br_f z2 h⟩⟩
theorem cr_next (hS : ∀ i, i < 7305 → ser i = cr_b (sr i)) : ∀ (k j : Nat), j + k = 7305 → ∃ r : Int32, (∀ post : Int32 → Prop, post r → wX_next_11 post (nI n) (nI s) (nI f) (nI t) ms ds ls ws o p (nI c) (nI e) mfA moA ser sd (k + 1) (nI j)) ∧ (∀ (post : Int32 → SY → Prop) (kn : Int32) (ca da : Nat → Int32), (∀ i, i < 7305 → da i = cr_b (cr_rl sd sr i)) → post r (nI s, nI f, nI t, ms, ds, ls, ws, o, p, nI c, nI e, nI n, kn, ya, mb, dta, ex, inc, ca, da) → wY_next_16 post (nI s) (nI f) (nI t) ms ds ls ws o p (nI c) (nI e) (nI n) kn ya mb dta ex inc ca da (k + 1) (nI j)) := by
  intro k
  induction k with
  | zero =>
    intro j hj
    have h : (7305 : Int32) ≤ nI j := nI_le (a := 7305) (by omega) (by omega)
    refine ⟨-4, fun post hp => ?_, fun post kn ca da hd hp => ?_⟩
    · rw [wX_next_11]
      exact br_t h hp
    · rw [wY_next_16]
      exact br_t h hp
  | succ k ih =>
    intro j hj
    have hj' : j < 7305 := by omega
    have h : ¬ (7305 : Int32) ≤ nI j := nI_ge (b := 7305) hj' (by decide)
    obtain ⟨r, hX, hY⟩ := ih (j + 1) (by omega)
    cases b : cr_rl sd sr j
    · refine ⟨r, fun post hp => ?_, fun post kn ca da hd hp => ?_⟩
      · rw [wX_next_11]
        refine br_f h (cr_xrl hj' hS ?_)
        rw [b]
        exact br_t rfl (nm_r (nI_1 j) (hX post hp))
      · rw [wY_next_16]
        dsimp only
        rw [cr_cl hj', hd j hj', b]
        exact br_f h ⟨cr_in hj', br_t rfl (nm_r (nI_1 j) (hY post kn ca da hd hp))⟩
    · refine ⟨nI j, fun post hp => ?_, fun post kn ca da hd hp => ?_⟩
      · rw [wX_next_11]
        refine br_f h (cr_xrl hj' hS ?_)
        rw [b]
        exact br_f (by decide) hp
      · rw [wY_next_16]
        dsimp only
        rw [cr_cl hj', hd j hj', b]
        exact br_f h ⟨cr_in hj', br_f (by decide) hp⟩
theorem cr_prev (hS : ∀ i, i < 7305 → ser i = cr_b (sr i)) : ∀ (j : Nat), j ≤ 7305 → ∃ r : Int32, (∀ post : Int32 → Prop, post r → wX_previous_11 post (nI n) (nI s) (nI f) (nI t) ms ds ls ws o p (nI c) (nI e) mfA moA ser sd (j + 1) (cr_pos true j)) ∧ (∀ (post : Int32 → SY → Prop) (kn : Int32) (ca da : Nat → Int32), (∀ i, i < 7305 → da i = cr_b (cr_rl sd sr i)) → post r (nI s, nI f, nI t, ms, ds, ls, ws, o, p, nI c, nI e, nI n, kn, ya, mb, dta, ex, inc, ca, da) → wY_previous_16 post (nI s) (nI f) (nI t) ms ds ls ws o p (nI c) (nI e) (nI n) kn ya mb dta ex inc ca da (j + 1) (cr_pos true j)) := by
  intro j
  induction j with
  | zero =>
    intro hj
    have h : cr_pos true 0 < 0 := by decide
    refine ⟨-4, fun post hp => ?_, fun post kn ca da hd hp => ?_⟩
    · rw [wX_previous_11]
      exact br_t h hp
    · rw [wY_previous_16]
      exact br_t h hp
  | succ j ih =>
    intro hj
    have hj' : j < 7305 := by omega
    have h : ¬ nI j < 0 := nI_pos (by omega)
    have e0 : cr_pos true (j + 1) = nI j := rfl
    have e1 : nI j + (-1) = cr_pos true j := cr_wayj true hj'
    rw [e0]
    obtain ⟨r, hX, hY⟩ := ih (by omega)
    cases b : cr_rl sd sr j
    · refine ⟨r, fun post hp => ?_, fun post kn ca da hd hp => ?_⟩
      · rw [wX_previous_11]
        refine br_f h (cr_xrl hj' hS ?_)
        rw [b]
        exact br_t rfl (nm_r e1 (hX post hp))
      · rw [wY_previous_16]
        dsimp only
        rw [cr_cl hj', hd j hj', b]
        exact br_f h ⟨cr_in hj', br_t rfl (nm_r e1 (hY post kn ca da hd hp))⟩
    · refine ⟨nI j, fun post hp => ?_, fun post kn ca da hd hp => ?_⟩
      · rw [wX_previous_11]
        refine br_f h (cr_xrl hj' hS ?_)
        rw [b]
        exact br_f (by decide) hp
      · rw [wY_previous_16]
        dsimp only
        rw [cr_cl hj', hd j hj', b]
        exact br_f h ⟨cr_in hj', br_f (by decide) hp⟩
theorem cr_nthn {post : Int32 → Prop} {x : Int32} (hx : x < 0) (hS : ∀ i, i < 7305 → ser i = cr_b (sr i)) (hp : post (-4)) : ∀ (k j m : Nat), j + k = 7305 → m ≤ j → wX_nth_4 post x (nI n) (nI s) (nI f) (nI t) ms ds ls ws o p (nI c) (nI e) mfA moA ser sd (k + 1) (nI m) (nI j) := by
  intro k
  induction k with
  | zero =>
    intro j m hj hm
    rw [wX_nth_4]
    exact br_t (nI_le (a := 7305) (by omega) (by omega)) hp
  | succ k ih =>
    intro j m hj hm
    have hj' : j < 7305 := by omega
    have h : ¬ (7305 : Int32) ≤ nI j := nI_ge (b := 7305) hj' (by decide)
    have hne : ¬ nI m = x := by
      intro z
      rw [← z] at hx
      exact nI_pos (by omega) hx
    rw [wX_nth_4]
    refine br_f h (cr_xrl hj' hS (cr_sel (fun z => nm_r (nI_1 j) (ih (j + 1) m (by omega) (by omega))) (fun z => br_f hne (nm_r (nI_1 m) (nm_r (nI_1 j) (ih (j + 1) (m + 1) (by omega) (by omega)))))))
theorem cr_nth {q : Nat} (hq : q < 2 ^ 31) (hS : ∀ i, i < 7305 → ser i = cr_b (sr i)) : ∀ (k j m : Nat), j + k = 7305 → m ≤ q → ∃ r : Int32, (∀ post : Int32 → Prop, post r → wX_nth_4 post (nI q) (nI n) (nI s) (nI f) (nI t) ms ds ls ws o p (nI c) (nI e) mfA moA ser sd (k + 1) (nI m) (nI j)) ∧ (∀ (post : Int32 → SY → Prop) (kn : Int32) (ca da : Nat → Int32), (∀ i, i < 7305 → da i = cr_b (cr_rl sd sr i)) → post r (nI s, nI f, nI t, ms, ds, ls, ws, o, p, nI c, nI e, nI n, kn, ya, mb, dta, ex, inc, ca, da) → wY_nth_8 post (nI q) (nI s) (nI f) (nI t) ms ds ls ws o p (nI c) (nI e) (nI n) kn ya mb dta ex inc ca da (k + 1) (nI (q - m)) (nI j)) := by
  intro k
  induction k with
  | zero =>
    intro j m hj hm
    have h : (7305 : Int32) ≤ nI j := nI_le (a := 7305) (by omega) (by omega)
    refine ⟨-4, fun post hp => ?_, fun post kn ca da hd hp => ?_⟩
    · rw [wX_nth_4]
      exact br_t h hp
    · rw [wY_nth_8]
      exact br_t h hp
  | succ k ih =>
    intro j m hj hm
    have hj' : j < 7305 := by omega
    have h : ¬ (7305 : Int32) ≤ nI j := nI_ge (b := 7305) hj' (by decide)
    have hq0 : ¬ nI q < 0 := nI_pos hq
    cases b : cr_rl sd sr j
    · obtain ⟨r, hX, hY⟩ := ih (j + 1) m (by omega) hm
      refine ⟨r, fun post hp => ?_, fun post kn ca da hd hp => ?_⟩
      · rw [wX_nth_4]
        refine br_f h (cr_xrl hj' hS ?_)
        rw [b]
        exact br_t rfl (nm_r (nI_1 j) (hX post hp))
      · rw [wY_nth_8]
        dsimp only
        rw [cr_cl hj', hd j hj', b]
        exact br_f h (br_f hq0 ⟨cr_in hj', br_t rfl (nm_r (nI_1 j) (hY post kn ca da hd hp))⟩)
    · by_cases z : m = q
      · refine ⟨nI j, fun post hp => ?_, fun post kn ca da hd hp => ?_⟩
        · rw [wX_nth_4]
          refine br_f h (cr_xrl hj' hS ?_)
          rw [b]
          exact br_f (by decide) (br_t (by rw [z]) hp)
        · rw [wY_nth_8]
          dsimp only
          rw [cr_cl hj', hd j hj', b]
          exact br_f h (br_f hq0 ⟨cr_in hj', br_f (by decide) (br_t (by rw [z, Nat.sub_self]; rfl) hp)⟩)
      · obtain ⟨r, hX, hY⟩ := ih (j + 1) (m + 1) (by omega) (by omega)
        refine ⟨r, fun post hp => ?_, fun post kn ca da hd hp => ?_⟩
        · rw [wX_nth_4]
          refine br_f h (cr_xrl hj' hS ?_)
          rw [b]
          refine br_f (by decide) (br_f ?_ (nm_r (nI_1 m) (nm_r (nI_1 j) (hX post hp))))
          rw [nI_eq (by omega) hq]
          exact z
        · rw [wY_nth_8]
          dsimp only
          rw [cr_cl hj', hd j hj', b]
          have e2 : nI (q - m) + (-1) = nI (q - (m + 1)) := by
            have e3 : q - m = q - (m + 1) + 1 := by omega
            rw [e3]
            exact pk_m1 _
          exact br_f h (br_f hq0 ⟨cr_in hj', br_f (by decide) (br_f (nI_ne0 (by omega) (by omega)) (nm_r e2 (nm_r (nI_1 j) (hY post kn ca da hd hp))))⟩)
theorem cr_btw {q : Nat} (hq : q < 7305) (hS : ∀ i, i < 7305 → ser i = cr_b (sr i)) : ∀ (k j : Nat) (m : Int32), q < j + k → j ≤ 7305 → ∃ r : Int32, (∀ post : Int32 → Prop, post r → wX_between_21 post (nI q) (nI n) (nI s) (nI f) (nI t) ms ds ls ws o p (nI c) (nI e) mfA moA ser sd (k + 1) m (nI j)) ∧ (∀ (post : Int32 → SY → Prop) (kn : Int32) (ca da : Nat → Int32), (∀ i, i < 7305 → da i = cr_b (cr_rl sd sr i)) → post r (nI s, nI f, nI t, ms, ds, ls, ws, o, p, nI c, nI e, nI n, kn, ya, mb, dta, ex, inc, ca, da) → wY_between_27 post (nI q) (nI s) (nI f) (nI t) ms ds ls ws o p (nI c) (nI e) (nI n) kn ya mb dta ex inc ca da (k + 1) m (nI j)) := by
  intro k
  induction k with
  | zero =>
    intro j m hj hj5
    have h : nI q < nI j := nI_lt (by omega) (by omega)
    refine ⟨m, fun post hp => ?_, fun post kn ca da hd hp => ?_⟩
    · rw [wX_between_21]
      exact br_t h hp
    · rw [wY_between_27]
      exact br_t h hp
  | succ k ih =>
    intro j m hj hj5
    by_cases w : q < j
    · have h : nI q < nI j := nI_lt w (by omega)
      refine ⟨m, fun post hp => ?_, fun post kn ca da hd hp => ?_⟩
      · rw [wX_between_21]
        exact br_t h hp
      · rw [wY_between_27]
        exact br_t h hp
    · have hj' : j < 7305 := by omega
      have h : ¬ nI q < nI j := nI_nlt (by omega) (by omega)
      cases b : cr_rl sd sr j
      · obtain ⟨r, hX, hY⟩ := ih (j + 1) m (by omega) (by omega)
        refine ⟨r, fun post hp => ?_, fun post kn ca da hd hp => ?_⟩
        · rw [wX_between_21]
          refine br_f h (cr_xrl hj' hS ?_)
          rw [b]
          exact br_t rfl (nm_r (nI_1 j) (hX post hp))
        · rw [wY_between_27]
          dsimp only
          rw [cr_cl hj', hd j hj', b]
          exact br_f h ⟨cr_in hj', br_t rfl (nm_r (nI_1 j) (hY post kn ca da hd hp))⟩
      · obtain ⟨r, hX, hY⟩ := ih (j + 1) (m + 1) (by omega) (by omega)
        refine ⟨r, fun post hp => ?_, fun post kn ca da hd hp => ?_⟩
        · rw [wX_between_21]
          refine br_f h (cr_xrl hj' hS ?_)
          rw [b]
          exact br_f (by decide) (nm_e (nm_r (nI_1 j) (hX post hp)))
        · rw [wY_between_27]
          dsimp only
          rw [cr_cl hj', hd j hj', b]
          exact br_f h ⟨cr_in hj', br_f (by decide) (nm_e (nm_r (nI_1 j) (hY post kn ca da hd hp)))⟩
end
theorem i_vc_occurs {k : Nat} {u : SX} {v : SY} (I : i_Rel k u v) (hk : k + 4 ≤ 2048) (v1 : Int32) : wpX_occurs (fun r => wpY_occurs (fun r' v' => r' = r ∧ i_Rel (k + 4) u v') v v1) u v1 := by
  obtain ⟨n, s, f, t, c, e, ms, ds, ls, ws, o, p, kn, mfA, moA, ser, sd, ya, mb, dta, ex, inc, ca, da, g, ib, rfl, rfl, hC, hD, hO, hE, hS, hK⟩ := I
  obtain ⟨o1, o2, o3, o4, o5, o6, o7, o8, o9⟩ := id hO
  unfold wpX_occurs
  dsimp only
  have work : ∀ post : SY → Prop, (∀ k' b' a', ¬ k' = 0 → (∀ i, i < 7305 → a' i = cr_b (cr_rl sd (cr_se s f t ms ds ls ws o p c e) i)) → post (nI s, nI f, nI t, ms, ds, ls, ws, o, p, nI c, nI e, nI n, k', ya, mb, dta, ex, inc, b', a')) → wpY_work post (nI s, nI f, nI t, ms, ds, ls, ws, o, p, nI c, nI e, nI n, kn, ya, mb, dta, ex, inc, ca, da) := fun post h => cr_ywork hD o1 o2 o3 o4 o6 o5 o8 o9 o7 hE hK h
  have bad : v1 < 0 ∨ nI 7305 ≤ v1 → wpX_occurs (fun r => wpY_occurs (fun r' v' => r' = r ∧ i_Rel (k + 4) (nI n, nI s, nI f, nI t, ms, ds, ls, ws, o, p, nI c, nI e, mfA, moA, ser, sd) v') (nI s, nI f, nI t, ms, ds, ls, ws, o, p, nI c, nI e, nI n, kn, ya, mb, dta, ex, inc, ca, da) v1) (nI n, nI s, nI f, nI t, ms, ds, ls, ws, o, p, nI c, nI e, mfA, moA, ser, sd) v1 := by
    intro hx
    unfold wpX_occurs wpY_occurs
    dsimp only
    refine cr_xis hx (br_t rfl (work _ (fun k' b' a' h1 h2 => ?_)))
    exact cr_yis hx (br_t rfl ⟨rfl, cr_mk hC hD hO hE hS (fun _ => h2)⟩)
  rcases pk_ix v1 (n := 7305) (by decide) with hx | hx | ⟨j, hj, rfl⟩
  · exact bad (Or.inl hx)
  · exact bad (Or.inr hx)
  · refine cr_xid hj (br_f (by decide) (cr_xrl hj hS ?_))
    unfold wpY_occurs
    dsimp only
    refine cr_sel (fun z => work _ (fun k' b' a' h1 h2 => ?_)) (fun z => work _ (fun k' b' a' h1 h2 => ?_))
    · dsimp only
      refine cr_yid hj (br_f (by decide) ⟨cr_in hj, ?_⟩)
      rw [cr_cl hj, h2 j hj, z]
      exact br_t rfl ⟨rfl, cr_mk hC hD hO hE hS (fun _ => h2)⟩
    · dsimp only
      refine cr_yid hj (br_f (by decide) ⟨cr_in hj, ?_⟩)
      rw [cr_cl hj, h2 j hj, z]
      exact br_f (by decide) ⟨rfl, cr_mk hC hD hO hE hS (fun _ => h2)⟩
theorem i_vc_next {k : Nat} {u : SX} {v : SY} (I : i_Rel k u v) (hk : k + 4 ≤ 2048) (v1 : Int32) : wpX_next (fun r => wpY_next (fun r' v' => r' = r ∧ i_Rel (k + 4) u v') v v1) u v1 := by
  have I' := I
  obtain ⟨n, s, f, t, c, e, ms, ds, ls, ws, o, p, kn, mfA, moA, ser, sd, ya, mb, dta, ex, inc, ca, da, g, ib, rfl, rfl, hC, hD, hO, hE, hS, hK⟩ := I
  obtain ⟨o1, o2, o3, o4, o5, o6, o7, o8, o9⟩ := id hO
  unfold wpX_next
  dsimp only
  have work : ∀ post : SY → Prop, (∀ k' b' a', ¬ k' = 0 → (∀ i, i < 7305 → a' i = cr_b (cr_rl sd (cr_se s f t ms ds ls ws o p c e) i)) → post (nI s, nI f, nI t, ms, ds, ls, ws, o, p, nI c, nI e, nI n, k', ya, mb, dta, ex, inc, b', a')) → wpY_work post (nI s, nI f, nI t, ms, ds, ls, ws, o, p, nI c, nI e, nI n, kn, ya, mb, dta, ex, inc, ca, da) := fun post h => cr_ywork hD o1 o2 o3 o4 o6 o5 o8 o9 o7 hE hK h
  have bad : v1 < 0 ∨ nI 7305 ≤ v1 → wpX_next (fun r => wpY_next (fun r' v' => r' = r ∧ i_Rel (k + 4) (nI n, nI s, nI f, nI t, ms, ds, ls, ws, o, p, nI c, nI e, mfA, moA, ser, sd) v') (nI s, nI f, nI t, ms, ds, ls, ws, o, p, nI c, nI e, nI n, kn, ya, mb, dta, ex, inc, ca, da) v1) (nI n, nI s, nI f, nI t, ms, ds, ls, ws, o, p, nI c, nI e, mfA, moA, ser, sd) v1 := by
    intro hx
    unfold wpX_next wpY_next
    dsimp only
    exact cr_xis hx (br_t rfl (cr_yis hx (br_t rfl ⟨rfl, I'⟩)))
  rcases pk_ix v1 (n := 7305) (by decide) with hx | hx | ⟨j, hj, rfl⟩
  · exact bad (Or.inl hx)
  · exact bad (Or.inr hx)
  · obtain ⟨r, hX, hY⟩ := cr_next (n := n) (s := s) (f := f) (t := t) (c := c) (e := e) (ms := ms) (ds := ds) (ls := ls) (ws := ws) (o := o) (p := p) (mfA := mfA) (moA := moA) (sd := sd) (ya := ya) (mb := mb) (dta := dta) (ex := ex) (inc := inc) hS (7305 - j) j (by omega)
    refine cr_xid hj (br_f (by decide) ⟨7305 - j + 1, hX _ ?_⟩)
    unfold wpY_next
    dsimp only
    exact cr_yid hj (br_f (by decide) (work _ (fun k' b' a' h1 h2 => ⟨7305 - j + 1, hY _ k' b' a' h2 ⟨rfl, cr_mk hC hD hO hE hS (fun _ => h2)⟩⟩)))
theorem i_vc_previous {k : Nat} {u : SX} {v : SY} (I : i_Rel k u v) (hk : k + 4 ≤ 2048) (v1 : Int32) : wpX_previous (fun r => wpY_previous (fun r' v' => r' = r ∧ i_Rel (k + 4) u v') v v1) u v1 := by
  have I' := I
  obtain ⟨n, s, f, t, c, e, ms, ds, ls, ws, o, p, kn, mfA, moA, ser, sd, ya, mb, dta, ex, inc, ca, da, g, ib, rfl, rfl, hC, hD, hO, hE, hS, hK⟩ := I
  obtain ⟨o1, o2, o3, o4, o5, o6, o7, o8, o9⟩ := id hO
  unfold wpX_previous
  dsimp only
  have work : ∀ post : SY → Prop, (∀ k' b' a', ¬ k' = 0 → (∀ i, i < 7305 → a' i = cr_b (cr_rl sd (cr_se s f t ms ds ls ws o p c e) i)) → post (nI s, nI f, nI t, ms, ds, ls, ws, o, p, nI c, nI e, nI n, k', ya, mb, dta, ex, inc, b', a')) → wpY_work post (nI s, nI f, nI t, ms, ds, ls, ws, o, p, nI c, nI e, nI n, kn, ya, mb, dta, ex, inc, ca, da) := fun post h => cr_ywork hD o1 o2 o3 o4 o6 o5 o8 o9 o7 hE hK h
  have bad : v1 < 0 ∨ nI 7305 ≤ v1 → wpX_previous (fun r => wpY_previous (fun r' v' => r' = r ∧ i_Rel (k + 4) (nI n, nI s, nI f, nI t, ms, ds, ls, ws, o, p, nI c, nI e, mfA, moA, ser, sd) v') (nI s, nI f, nI t, ms, ds, ls, ws, o, p, nI c, nI e, nI n, kn, ya, mb, dta, ex, inc, ca, da) v1) (nI n, nI s, nI f, nI t, ms, ds, ls, ws, o, p, nI c, nI e, mfA, moA, ser, sd) v1 := by
    intro hx
    unfold wpX_previous wpY_previous
    dsimp only
    exact cr_xis hx (br_t rfl (cr_yis hx (br_t rfl ⟨rfl, I'⟩)))
  rcases pk_ix v1 (n := 7305) (by decide) with hx | hx | ⟨j, hj, rfl⟩
  · exact bad (Or.inl hx)
  · exact bad (Or.inr hx)
  · obtain ⟨r, hX, hY⟩ := cr_prev (n := n) (s := s) (f := f) (t := t) (c := c) (e := e) (ms := ms) (ds := ds) (ls := ls) (ws := ws) (o := o) (p := p) (mfA := mfA) (moA := moA) (sd := sd) (ya := ya) (mb := mb) (dta := dta) (ex := ex) (inc := inc) hS (j + 1) (by omega)
    refine cr_xid hj (br_f (by decide) ⟨j + 1 + 1, hX _ ?_⟩)
    unfold wpY_previous
    dsimp only
    exact cr_yid hj (br_f (by decide) (work _ (fun k' b' a' h1 h2 => ⟨j + 1 + 1, hY _ k' b' a' h2 ⟨rfl, cr_mk hC hD hO hE hS (fun _ => h2)⟩⟩)))
theorem i_vc_nth {k : Nat} {u : SX} {v : SY} (I : i_Rel k u v) (hk : k + 4 ≤ 2048) (v1 : Int32) : wpX_nth (fun r => wpY_nth (fun r' v' => r' = r ∧ i_Rel (k + 4) u v') v v1) u v1 := by
  obtain ⟨n, s, f, t, c, e, ms, ds, ls, ws, o, p, kn, mfA, moA, ser, sd, ya, mb, dta, ex, inc, ca, da, g, ib, rfl, rfl, hC, hD, hO, hE, hS, hK⟩ := I
  obtain ⟨o1, o2, o3, o4, o5, o6, o7, o8, o9⟩ := id hO
  unfold wpX_nth
  dsimp only
  have work : ∀ post : SY → Prop, (∀ k' b' a', ¬ k' = 0 → (∀ i, i < 7305 → a' i = cr_b (cr_rl sd (cr_se s f t ms ds ls ws o p c e) i)) → post (nI s, nI f, nI t, ms, ds, ls, ws, o, p, nI c, nI e, nI n, k', ya, mb, dta, ex, inc, b', a')) → wpY_work post (nI s, nI f, nI t, ms, ds, ls, ws, o, p, nI c, nI e, nI n, kn, ya, mb, dta, ex, inc, ca, da) := fun post h => cr_ywork hD o1 o2 o3 o4 o6 o5 o8 o9 o7 hE hK h
  by_cases z : v1 < 0
  · refine ⟨7305 + 1, cr_nthn z hS ?_ 7305 0 0 rfl (by omega)⟩
    unfold wpY_nth
    dsimp only
    refine work _ (fun k' b' a' h1 h2 => ⟨1, ?_⟩)
    rw [wY_nth_8]
    exact br_f (by decide) (br_t z ⟨rfl, cr_mk hC hD hO hE hS (fun _ => h2)⟩)
  · obtain ⟨q, hq, rfl⟩ := nI_of z
    obtain ⟨r, hX, hY⟩ := cr_nth (n := n) (s := s) (f := f) (t := t) (c := c) (e := e) (ms := ms) (ds := ds) (ls := ls) (ws := ws) (o := o) (p := p) (mfA := mfA) (moA := moA) (sd := sd) (ya := ya) (mb := mb) (dta := dta) (ex := ex) (inc := inc) hq hS 7305 0 0 rfl (by omega)
    refine ⟨7305 + 1, hX _ ?_⟩
    unfold wpY_nth
    dsimp only
    exact work _ (fun k' b' a' h1 h2 => ⟨7305 + 1, hY _ k' b' a' h2 ⟨rfl, cr_mk hC hD hO hE hS (fun _ => h2)⟩⟩)
theorem i_vc_between {k : Nat} {u : SX} {v : SY} (I : i_Rel k u v) (hk : k + 4 ≤ 2048) (v1 : Int32) (v2 : Int32) : wpX_between (fun r => wpY_between (fun r' v' => r' = r ∧ i_Rel (k + 4) u v') v v1 v2) u v1 v2 := by
  have I' := I
  obtain ⟨n, s, f, t, c, e, ms, ds, ls, ws, o, p, kn, mfA, moA, ser, sd, ya, mb, dta, ex, inc, ca, da, g, ib, rfl, rfl, hC, hD, hO, hE, hS, hK⟩ := I
  obtain ⟨o1, o2, o3, o4, o5, o6, o7, o8, o9⟩ := id hO
  unfold wpX_between wpY_between
  dsimp only
  have work : ∀ post : SY → Prop, (∀ k' b' a', ¬ k' = 0 → (∀ i, i < 7305 → a' i = cr_b (cr_rl sd (cr_se s f t ms ds ls ws o p c e) i)) → post (nI s, nI f, nI t, ms, ds, ls, ws, o, p, nI c, nI e, nI n, k', ya, mb, dta, ex, inc, b', a')) → wpY_work post (nI s, nI f, nI t, ms, ds, ls, ws, o, p, nI c, nI e, nI n, kn, ya, mb, dta, ex, inc, ca, da) := fun post h => cr_ywork hD o1 o2 o3 o4 o6 o5 o8 o9 o7 hE hK h
  have split1 : ∀ x : Int32, (x < 0 ∨ nI 7305 ≤ x) ∨ ∃ j : Nat, j < 7305 ∧ x = nI j := fun x => by
    rcases pk_ix x (n := 7305) (by decide) with hx | hx | hx
    · exact Or.inl (Or.inl hx)
    · exact Or.inl (Or.inr hx)
    · exact Or.inr hx
  rcases split1 v1 with hx | ⟨j, hj, rfl⟩
  · exact cr_xis hx (br_t rfl (cr_yis hx (br_t rfl ⟨rfl, I'⟩)))
  · refine cr_xid hj (br_f (by decide) ?_)
    rcases split1 v2 with hx | ⟨q, hq, rfl⟩
    · exact cr_xis hx (br_t rfl (cr_yid hj (br_f (by decide) (cr_yis hx (br_t rfl ⟨rfl, I'⟩)))))
    · obtain ⟨r, hX, hY⟩ := cr_btw (n := n) (s := s) (f := f) (t := t) (c := c) (e := e) (ms := ms) (ds := ds) (ls := ls) (ws := ws) (o := o) (p := p) (mfA := mfA) (moA := moA) (sd := sd) (ya := ya) (mb := mb) (dta := dta) (ex := ex) (inc := inc) hq hS 7305 j 0 (by omega) (by omega)
      exact cr_xid hq (br_f (by decide) ⟨7305 + 1, hX _ (cr_yid hj (br_f (by decide) (cr_yid hq (br_f (by decide) (work _ (fun k' b' a' h1 h2 => ⟨7305 + 1, hY _ k' b' a' h2 ⟨rfl, cr_mk hC hD hO hE hS (fun _ => h2)⟩⟩))))))⟩)
theorem i_vc_weekday {k : Nat} {u : SX} {v : SY} (I : i_Rel k u v) (hk : k + 4 ≤ 2048) (v1 : Int32) : wpX_weekday (fun r => wpY_weekday (fun r' => r' = r ∧ i_Rel (k + 4) u v) v v1) u v1 := by
  have I' := I
  obtain ⟨n, s, f, t, c, e, ms, ds, ls, ws, o, p, kn, mfA, moA, ser, sd, ya, mb, dta, ex, inc, ca, da, g, ib, rfl, rfl, hC, hD, hO, hE, hS, hK⟩ := I
  unfold wpX_weekday
  dsimp only
  have bad : v1 < 0 ∨ nI 7305 ≤ v1 → wpX_weekday (fun r => wpY_weekday (fun r' => r' = r ∧ i_Rel (k + 4) (nI n, nI s, nI f, nI t, ms, ds, ls, ws, o, p, nI c, nI e, mfA, moA, ser, sd) (nI s, nI f, nI t, ms, ds, ls, ws, o, p, nI c, nI e, nI n, kn, ya, mb, dta, ex, inc, ca, da)) (nI s, nI f, nI t, ms, ds, ls, ws, o, p, nI c, nI e, nI n, kn, ya, mb, dta, ex, inc, ca, da) v1) (nI n, nI s, nI f, nI t, ms, ds, ls, ws, o, p, nI c, nI e, mfA, moA, ser, sd) v1 := by
    intro hx
    unfold wpX_weekday wpY_weekday
    dsimp only
    exact cr_xis hx (br_t rfl (cr_yis hx (br_t rfl ⟨rfl, I'⟩)))
  rcases pk_ix v1 (n := 7305) (by decide) with hx | hx | ⟨j, hj, rfl⟩
  · exact bad (Or.inl hx)
  · exact bad (Or.inr hx)
  · exact cr_xid hj (br_f (by decide) (cr_xwd hj (cr_ywd hj ⟨rfl, I'⟩)))
