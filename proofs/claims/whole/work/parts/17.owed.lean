def i_Rel (_ : Nat) (u : SX) (v : SY) : Prop := sk_Rel u v
theorem i_up {k : Nat} {u : SX} {v : SY} (h : i_Rel k u v) : i_Rel (k + 3) u v := h
theorem i_vc0 : wpX_init (fun u => wpY_init (fun v => i_Rel 0 u v)) :=
  ⟨0, 0, 0, 0, 0, 0, 0, 0, 0, 0, 0, 0, 0, (fun _ => 0), (fun _ => 0), (fun _ => 0), (fun _ => 0), (fun _ => 0), (fun _ => 0), (fun _ => 0), (fun _ => 0), (fun _ => 0), (fun _ => 0), (fun _ => 0), (fun _ => 0), (fun _ => 0), (fun _ => 0), (fun _ => 0), (fun _ => 0), (fun _ => 0), (fun _ => 0), by omega, by omega, by omega, rfl, rfl, Or.inl rfl⟩
theorem i_vc_token {k : Nat} {u : SX} {v : SY} (I : i_Rel k u v) (hk : k + 3 ≤ 1536) (v1 : Int32) (v2 : Int32) : wpX_token (fun r u' => wpY_token (fun r' v' => r' = r ∧ i_Rel (k + 3) u' v') v v1 v2) u v1 v2 := by
  obtain ⟨T, D, E, tr, ep, ind, vc, pc, cur, tu, ca, lv, yt, c, a, nm, nv, ps, pst, psk, jm, cp, stk, em, ce, rp, ct, cm, po, yc, ye, h80, hD, hE, rfl, rfl, hG⟩ := I
  by_cases h : T = 80
  · subst h
    refine br_t rfl ?_
    exact br_t rfl ⟨rfl, ⟨80, D, E, tr, ep, ind, vc, pc, cur, tu, ca, lv, yt, c, a, nm, nv, ps, pst, psk, jm, cp, stk, em, ce, rp, ct, cm, po, yc, ye, h80, hD, hE, rfl, rfl, hG⟩⟩
  · have ne : ¬ nI T = 80 := fun y => h ((nI_eq (b := 80) (by omega) (by omega)).mp y)
    refine br_f ne ⟨vp_in_nI (n := T) (by omega) (by decide), ?_⟩
    rw [nI_clamp (n := T) (by omega)]
    refine nm_e ⟨vp_in_nI (n := T) (by omega) (by decide), nm_e (nm_r (nI_1 T) ?_)⟩
    refine br_f ne ⟨vp_in_nI (n := T) (by omega) (by decide), ?_⟩
    rw [nI_clamp (n := T) (by omega)]
    refine nm_e ⟨vp_in_nI (n := T) (by omega) (by decide), nm_e (nm_r (nI_1 T) ?_)⟩
    exact ⟨rfl, ⟨T + 1, D, E, 0, ep, ind, vc, pc, cur, tu, ca, lv, yt, upd c T v1, upd a T v2, nm, nv, ps, pst, psk, jm, cp, stk, em, ce, rp, ct, cm, po, yc, ye, by omega, hD, hE, rfl, rfl, Or.inl rfl⟩⟩
theorem i_vc_clear {k : Nat} {u : SX} {v : SY} (I : i_Rel k u v) (hk : k + 3 ≤ 1536) : wpX_clear (fun u' => wpY_clear (fun v' => i_Rel (k + 3) u' v') v) u := by
  obtain ⟨T, D, E, tr, ep, ind, vc, pc, cur, tu, ca, lv, yt, c, a, nm, nv, ps, pst, psk, jm, cp, stk, em, ce, rp, ct, cm, po, yc, ye, h80, hD, hE, rfl, rfl, hG⟩ := I
  exact ⟨0, D, E, 0, ep, ind, vc, pc, cur, tu, ca, lv, yt, c, a, nm, nv, ps, pst, psk, jm, cp, stk, em, ce, rp, ct, cm, po, yc, ye, by omega, hD, hE, rfl, rfl, Or.inl rfl⟩
theorem i_vc_translate {k : Nat} {u : SX} {v : SY} (I : i_Rel k u v) (hk : k + 3 ≤ 1536) : wpX_translate (fun r u' => wpY_translate (fun r' v' => r' = r ∧ i_Rel (k + 3) u' v') v) u := by
  obtain ⟨T, D, E, tr, ep, ind, vc, pc, cur, tu, ca, lv, yt, c, a, nm, nv, ps, pst, psk, jm, cp, stk, em, ce, rp, ct, cm, po, yc, ye, h80, hD, hE, rfl, rfl, hG⟩ := I
  obtain ⟨r, u1, v1, R, hX, hY⟩ := sr_tr (tr := tr) (ep := ep) (ind := ind) (vc := vc) (pc := pc) (cur := cur) (tu := tu) (ca := ca) (lv := lv) (yt := yt) (c := c) (a := a) (nm := nm) (nv := nv) (ps := ps) (pst := pst) (psk := psk) (jm := jm) (cp := cp) (stk := stk) (em := em) (ce := ce) (rp := rp) (ct := ct) (cm := cm) (po := po) (yc := yc) (ye := ye) (ytr := tr) h80 hD hE
  refine hX _ ?_
  refine hY _ ?_
  exact ⟨rfl, R⟩
theorem i_vc_errorAt {k : Nat} {u : SX} {v : SY} (I : i_Rel k u v) (hk : k + 3 ≤ 1536) : wpX_errorAt (fun r => wpY_errorAt (fun r' => r' = r ∧ i_Rel (k + 3) u v) v) u := by
  obtain ⟨T, D, E, tr, ep, ind, vc, pc, cur, tu, ca, lv, yt, c, a, nm, nv, ps, pst, psk, jm, cp, stk, em, ce, rp, ct, cm, po, yc, ye, h80, hD, hE, rfl, rfl, hG⟩ := I
  exact ⟨rfl, ⟨T, D, E, tr, ep, ind, vc, pc, cur, tu, ca, lv, yt, c, a, nm, nv, ps, pst, psk, jm, cp, stk, em, ce, rp, ct, cm, po, yc, ye, h80, hD, hE, rfl, rfl, hG⟩⟩
theorem i_vc_push {k : Nat} {u : SX} {v : SY} (I : i_Rel k u v) (hk : k + 3 ≤ 1536) (v1 : Int32) : wpX_push (fun r u' => wpY_push (fun r' v' => r' = r ∧ i_Rel (k + 3) u' v') v v1) u v1 := by
  obtain ⟨T, D, E, tr, ep, ind, vc, pc, cur, tu, ca, lv, yt, c, a, nm, nv, ps, pst, psk, jm, cp, stk, em, ce, rp, ct, cm, po, yc, ye, h80, hD, hE, rfl, rfl, hG⟩ := I
  by_cases h : D = 16
  · subst h
    refine br_t rfl ?_
    exact br_t rfl ⟨rfl, ⟨T, 16, E, tr, ep, ind, vc, pc, cur, tu, ca, lv, yt, c, a, nm, nv, ps, pst, psk, jm, cp, stk, em, ce, rp, ct, cm, po, yc, ye, h80, hD, hE, rfl, rfl, hG⟩⟩
  · have ne : ¬ nI D = 16 := fun y => h ((nI_eq (b := 16) (by omega) (by omega)).mp y)
    refine br_f ne ?_
    refine sx_put (by omega) ?_
    refine sy_push (by omega) ?_
    exact ⟨rfl, ⟨T, D + 1, E, tr, ep, ind, vc, pc, cur, tu, ca, lv, yt, c, a, nm, nv, ps, pst, psk, jm, cp, upd stk D v1, em, ce, rp, ct, cm, po, yc, ye, h80, by omega, hE, rfl, rfl, hG⟩⟩
theorem i_vc_run {k : Nat} {u : SX} {v : SY} (I : i_Rel k u v) (hk : k + 3 ≤ 1536) (v1 : Int32) : wpX_run (fun r u' => wpY_run (fun r' v' => r' = r ∧ i_Rel (k + 3) u' v') v v1) u v1 := by
  obtain ⟨T, D, E, tr, ep, ind, vc, pc, cur, tu, ca, lv, yt, c, a, nm, nv, ps, pst, psk, jm, cp, stk, em, ce, rp, ct, cm, po, yc, ye, h80, hD, hE, rfl, rfl, hG⟩ := I
  rcases hG with h0 | ⟨h1, G⟩
  · subst h0
    refine br_t rfl ?_
    exact br_t rfl (br_t (by decide) ⟨rfl, ⟨T, D, E, 0, ep, ind, vc, pc, cur, tu, ca, lv, yt, c, a, nm, nv, ps, pst, psk, jm, cp, stk, em, ce, rp, ct, cm, po, yc, ye, h80, hD, hE, rfl, rfl, Or.inl rfl⟩⟩)
  · subst h1
    obtain ⟨r, u1, v1, R, hX, hY⟩ := sr_run (v1 := v1) (ep := ep) (ind := ind) (vc := vc) (pc := pc) (cur := cur) (tu := tu) (ca := ca) (lv := lv) (yt := yt) (c := c) (a := a) (nm := nm) (nv := nv) (ps := ps) (pst := pst) (psk := psk) (jm := jm) (cp := cp) (stk := stk) (em := em) (ce := ce) (rp := rp) (ct := ct) (cm := cm) (po := po) (yc := yc) (ye := ye) h80 hD hE G
    refine hX _ ?_
    refine hY _ ?_
    exact ⟨rfl, R⟩
theorem i_vc_depth {k : Nat} {u : SX} {v : SY} (I : i_Rel k u v) (hk : k + 3 ≤ 1536) : wpX_depth (fun r => wpY_depth (fun r' => r' = r ∧ i_Rel (k + 3) u v) v) u := by
  obtain ⟨T, D, E, tr, ep, ind, vc, pc, cur, tu, ca, lv, yt, c, a, nm, nv, ps, pst, psk, jm, cp, stk, em, ce, rp, ct, cm, po, yc, ye, h80, hD, hE, rfl, rfl, hG⟩ := I
  exact ⟨rfl, ⟨T, D, E, tr, ep, ind, vc, pc, cur, tu, ca, lv, yt, c, a, nm, nv, ps, pst, psk, jm, cp, stk, em, ce, rp, ct, cm, po, yc, ye, h80, hD, hE, rfl, rfl, hG⟩⟩
theorem i_vc_top {k : Nat} {u : SX} {v : SY} (I : i_Rel k u v) (hk : k + 3 ≤ 1536) (v1 : Int32) : wpX_top (fun r => wpY_top (fun r' => r' = r ∧ i_Rel (k + 3) u v) v v1) u v1 := by
  obtain ⟨T, D, E, tr, ep, ind, vc, pc, cur, tu, ca, lv, yt, c, a, nm, nv, ps, pst, psk, jm, cp, stk, em, ce, rp, ct, cm, po, yc, ye, h80, hD, hE, rfl, rfl, hG⟩ := I
  have R : sk_Rel _ _ := ⟨T, D, E, tr, ep, ind, vc, pc, cur, tu, ca, lv, yt, c, a, nm, nv, ps, pst, psk, jm, cp, stk, em, ce, rp, ct, cm, po, yc, ye, h80, hD, hE, rfl, rfl, hG⟩
  by_cases h0 : v1 < 0
  · exact br_t h0 (br_t h0 ⟨rfl, R⟩)
  · by_cases h1 : v1 < nI D
    · obtain ⟨j, hj, rfl⟩ := nI_of h0
      rw [nI_ltI hj (by omega)] at h1
      have e : nI D - 1 - nI j = nI (D - 1 - j) := by
        obtain ⟨d, rfl⟩ : ∃ d, D = d + 1 := ⟨D - 1, by omega⟩
        rw [nI_pred, pk_sub (by omega)]
        rfl
      refine br_f h0 (br_t (nI_lt h1 (by omega)) ?_)
      rw [e, nI_clamp (n := D - 1 - j) (by omega)]
      refine ⟨vp_in_nI (by omega) (by decide), ?_⟩
      refine br_f h0 (br_t (nI_lt h1 (by omega)) ?_)
      rw [e, nI_clamp (n := D - 1 - j) (by omega)]
      exact ⟨vp_in_nI (by omega) (by decide), rfl, R⟩
    · exact br_f h0 (br_f h1 (br_f h0 (br_f h1 ⟨rfl, R⟩)))
theorem i_vc_outputs {k : Nat} {u : SX} {v : SY} (I : i_Rel k u v) (hk : k + 3 ≤ 1536) : wpX_outputs (fun r => wpY_outputs (fun r' => r' = r ∧ i_Rel (k + 3) u v) v) u := by
  obtain ⟨T, D, E, tr, ep, ind, vc, pc, cur, tu, ca, lv, yt, c, a, nm, nv, ps, pst, psk, jm, cp, stk, em, ce, rp, ct, cm, po, yc, ye, h80, hD, hE, rfl, rfl, hG⟩ := I
  exact ⟨rfl, ⟨T, D, E, tr, ep, ind, vc, pc, cur, tu, ca, lv, yt, c, a, nm, nv, ps, pst, psk, jm, cp, stk, em, ce, rp, ct, cm, po, yc, ye, h80, hD, hE, rfl, rfl, hG⟩⟩
theorem i_vc_output {k : Nat} {u : SX} {v : SY} (I : i_Rel k u v) (hk : k + 3 ≤ 1536) (v1 : Int32) : wpX_output (fun r => wpY_output (fun r' => r' = r ∧ i_Rel (k + 3) u v) v v1) u v1 := by
  obtain ⟨T, D, E, tr, ep, ind, vc, pc, cur, tu, ca, lv, yt, c, a, nm, nv, ps, pst, psk, jm, cp, stk, em, ce, rp, ct, cm, po, yc, ye, h80, hD, hE, rfl, rfl, hG⟩ := I
  have R : sk_Rel _ _ := ⟨T, D, E, tr, ep, ind, vc, pc, cur, tu, ca, lv, yt, c, a, nm, nv, ps, pst, psk, jm, cp, stk, em, ce, rp, ct, cm, po, yc, ye, h80, hD, hE, rfl, rfl, hG⟩
  by_cases h0 : v1 < 0
  · exact br_t h0 (br_t h0 ⟨rfl, R⟩)
  · by_cases h1 : v1 < nI E
    · obtain ⟨j, hj, rfl⟩ := nI_of h0
      have h2 := h1
      rw [nI_ltI hj (by omega)] at h2
      have V : vp_in (nI j) 16 := vp_in_nI (by omega) (by decide)
      exact br_f h0 (br_t h1 ⟨V, br_f h0 (br_t h1 ⟨V, rfl, R⟩)⟩)
    · exact br_f h0 (br_f h1 (br_f h0 (br_f h1 ⟨rfl, R⟩)))
theorem i_vc_variable {k : Nat} {u : SX} {v : SY} (I : i_Rel k u v) (hk : k + 3 ≤ 1536) (v1 : Int32) : wpX_variable (fun r => wpY_variable (fun r' => r' = r ∧ i_Rel (k + 3) u v) v v1) u v1 := by
  obtain ⟨T, D, E, tr, ep, ind, vc, pc, cur, tu, ca, lv, yt, c, a, nm, nv, ps, pst, psk, jm, cp, stk, em, ce, rp, ct, cm, po, yc, ye, h80, hD, hE, rfl, rfl, hG⟩ := I
  have R : sk_Rel _ _ := ⟨T, D, E, tr, ep, ind, vc, pc, cur, tu, ca, lv, yt, c, a, nm, nv, ps, pst, psk, jm, cp, stk, em, ce, rp, ct, cm, po, yc, ye, h80, hD, hE, rfl, rfl, hG⟩
  rcases hG with z | ⟨z, G⟩
  · exact br_t z (br_t z ⟨rfl, R⟩)
  · have nz : ¬ tr = 0 := by rw [z]; decide
    have ev := G.2.2.1
    have hV := G.2.2.2.1
    subst ev
    refine br_f nz ?_
    by_cases h0 : v1 < 0
    · exact br_t h0 (br_t rfl (br_f nz (br_t h0 ⟨rfl, R⟩)))
    · by_cases h1 : nI (sk_vs c T) ≤ v1
      · refine br_f h0 (br_t h1 (br_t rfl (br_f nz (br_f h0 ?_))))
        refine sy_vars h80 ?_
        exact br_f (Int32.not_lt.mpr h1) ⟨rfl, R⟩
      · obtain ⟨j, hj, rfl⟩ := nI_of h0
        have h2 := h1
        rw [nI_leI (by omega) hj] at h2
        have V : vp_in (nI j) 12 := vp_in_nI (by omega) (by decide)
        refine br_f h0 (br_f h1 (br_f (by decide) ⟨V, br_f nz (br_f h0 ?_)⟩))
        refine sy_vars h80 ?_
        exact br_t (Int32.not_le.mp h1) ⟨V, rfl, R⟩
