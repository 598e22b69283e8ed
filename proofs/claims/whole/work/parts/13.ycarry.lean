section
variable {yT tr ep yD yE lv yt : Int32} {c a stk em ce po yc ye : Nat → Int32}
variable {T D E p t l : Nat}
theorem sy_dr {post : SY → Prop} (k : Nat) (hD : D + k ≤ 16) (h : post (yT, tr, ep, nI D, yE, lv, yt, c, a, stk, em, ce, po, yc, ye)) : wpY_drop post (yT, tr, ep, nI (D + k), yE, lv, yt, c, a, stk, em, ce, po, yc, ye) (nI k) :=
  sy_drop hD (by omega) (by rw [Nat.add_sub_cancel]; exact h)
theorem sy_wk1 {post : Int32 → Prop} {x y : Int32} (h : post (x + y)) : wpY_worked post 1 x y := br_t rfl h
theorem sy_wk2 {post : Int32 → Prop} {x y : Int32} (h : post (x - y)) : wpY_worked post 2 x y := br_f (by decide) (br_t rfl h)
theorem sy_wk3 {post : Int32 → Prop} {x y : Int32} (h : post (x * y)) : wpY_worked post 3 x y := br_f (by decide) (br_f (by decide) (br_t rfl h))
theorem sy_wk4 {post : Int32 → Prop} {x y : Int32} (hy : ¬ y = 0) (h : post (x / y)) : wpY_worked post 4 x y := by
  refine br_f (by decide) (br_f (by decide) (br_f (by decide) (br_f (by decide) (br_f (by decide) (br_f hy ⟨sk_0i y hy, nm_e ?_⟩)))))
  rw [sk_divL]; exact h
theorem sy_wk10 {post : Int32 → Prop} {x y : Int32} (h : post (if x = y then (1 : Int32) else 0)) : wpY_worked post 10 x y := by
  refine br_f (by decide) (br_f (by decide) (br_f (by decide) (br_t rfl ?_)))
  by_cases e : x = y
  · rw [if_pos e] at h; exact br_t e h
  · rw [if_neg e] at h; exact br_f e h
theorem sy_wk11 {post : Int32 → Prop} {x y : Int32} (h : post (if y ≤ x then (0 : Int32) else 1)) : wpY_worked post 11 x y := by
  refine br_f (by decide) (br_f (by decide) (br_f (by decide) (br_f (by decide) (br_t rfl ?_))))
  by_cases e : y ≤ x
  · rw [if_pos e] at h; exact br_t e h
  · rw [if_neg e] at h; exact br_f e h
theorem yp_0 {post : SY → Prop} (hp : p < 80) (hc : c p = 0) (hD : D < 16) (h : post (nI T, tr, ep, nI (D + 1), nI E, nI l, nI t, c, a, upd stk D (a p), em, ce, po, yc, ye)) : wpY_plain post (nI T, tr, ep, nI (D), nI E, nI l, nI t, c, a, stk, em, ce, po, yc, ye) (nI p) := by
  refine ⟨vp_in_nI (n := p) hp (by decide), ?_⟩
  rw [nI_clamp (n := p) (by omega), hc]
  refine nm_e ?_
  refine sy_topz (j := 0) (by omega) (by omega) ?_
  intro z hz
  refine sy_topz (j := 1) (by omega) (by omega) ?_
  intro y hy
  refine sy_topz (j := 2) (by omega) (by omega) ?_
  intro x hx
  refine sy_tk0 ?_
  refine sy_dr (D := D) 0 (by omega) ?_
  refine br_t rfl ⟨vp_in_nI (n := p) hp (by decide), ?_⟩
  refine sy_push hD ?_
  exact br_t (by decide) (br_f (by decide) (br_f (by decide) (br_f (by decide) (br_f (by decide) (br_f (by decide) (br_f (by decide) (br_f (by decide) (br_f (by decide) (br_f (by decide) (br_f (by decide) (br_f (by decide) (br_f (by decide) h))))))))))))
theorem yp_1 {post : SY → Prop} (hp : p < 80) (hc : c p = 1) (hD : D + 2 ≤ 16) (h : post (nI T, tr, ep, nI (D + 1), nI E, nI l, nI t, c, a, upd stk D (stk D + stk (D + 1)), em, ce, po, yc, ye)) : wpY_plain post (nI T, tr, ep, nI (D + 2), nI E, nI l, nI t, c, a, stk, em, ce, po, yc, ye) (nI p) := by
  refine ⟨vp_in_nI (n := p) hp (by decide), ?_⟩
  rw [nI_clamp (n := p) (by omega), hc]
  refine nm_e ?_
  refine sy_topz (j := 0) (by omega) (by omega) ?_
  intro z hz
  have ez : z = stk (D + 1) := hz (by omega)
  subst ez
  refine sy_topz (j := 1) (by omega) (by omega) ?_
  intro y hy
  have ey : y = stk D := hy (by omega)
  subst ey
  refine sy_topz (j := 2) (by omega) (by omega) ?_
  intro x hx
  refine sy_tk1 ?_
  refine sy_dr (D := D) 2 (by omega) ?_
  refine br_f (by decide) (br_f (by decide) (br_t (by decide) ?_))
  unfold wY_plain_72
  refine sy_wk1 ?_
  refine sy_push (by omega) ?_
  exact br_f (by decide) (br_f (by decide) (br_f (by decide) (br_f (by decide) (br_f (by decide) (br_f (by decide) (br_f (by decide) (br_f (by decide) (br_f (by decide) (br_f (by decide) h)))))))))
theorem yp_2 {post : SY → Prop} (hp : p < 80) (hc : c p = 2) (hD : D + 2 ≤ 16) (h : post (nI T, tr, ep, nI (D + 1), nI E, nI l, nI t, c, a, upd stk D (stk D - stk (D + 1)), em, ce, po, yc, ye)) : wpY_plain post (nI T, tr, ep, nI (D + 2), nI E, nI l, nI t, c, a, stk, em, ce, po, yc, ye) (nI p) := by
  refine ⟨vp_in_nI (n := p) hp (by decide), ?_⟩
  rw [nI_clamp (n := p) (by omega), hc]
  refine nm_e ?_
  refine sy_topz (j := 0) (by omega) (by omega) ?_
  intro z hz
  have ez : z = stk (D + 1) := hz (by omega)
  subst ez
  refine sy_topz (j := 1) (by omega) (by omega) ?_
  intro y hy
  have ey : y = stk D := hy (by omega)
  subst ey
  refine sy_topz (j := 2) (by omega) (by omega) ?_
  intro x hx
  refine sy_tk2 ?_
  refine sy_dr (D := D) 2 (by omega) ?_
  refine br_f (by decide) (br_f (by decide) (br_t (by decide) ?_))
  unfold wY_plain_72
  refine sy_wk2 ?_
  refine sy_push (by omega) ?_
  exact br_f (by decide) (br_f (by decide) (br_f (by decide) (br_f (by decide) (br_f (by decide) (br_f (by decide) (br_f (by decide) (br_f (by decide) (br_f (by decide) (br_f (by decide) h)))))))))
theorem yp_3 {post : SY → Prop} (hp : p < 80) (hc : c p = 3) (hD : D + 2 ≤ 16) (h : post (nI T, tr, ep, nI (D + 1), nI E, nI l, nI t, c, a, upd stk D (stk D * stk (D + 1)), em, ce, po, yc, ye)) : wpY_plain post (nI T, tr, ep, nI (D + 2), nI E, nI l, nI t, c, a, stk, em, ce, po, yc, ye) (nI p) := by
  refine ⟨vp_in_nI (n := p) hp (by decide), ?_⟩
  rw [nI_clamp (n := p) (by omega), hc]
  refine nm_e ?_
  refine sy_topz (j := 0) (by omega) (by omega) ?_
  intro z hz
  have ez : z = stk (D + 1) := hz (by omega)
  subst ez
  refine sy_topz (j := 1) (by omega) (by omega) ?_
  intro y hy
  have ey : y = stk D := hy (by omega)
  subst ey
  refine sy_topz (j := 2) (by omega) (by omega) ?_
  intro x hx
  refine sy_tk3 ?_
  refine sy_dr (D := D) 2 (by omega) ?_
  refine br_f (by decide) (br_f (by decide) (br_t (by decide) ?_))
  unfold wY_plain_72
  refine sy_wk3 ?_
  refine sy_push (by omega) ?_
  exact br_f (by decide) (br_f (by decide) (br_f (by decide) (br_f (by decide) (br_f (by decide) (br_f (by decide) (br_f (by decide) (br_f (by decide) (br_f (by decide) (br_f (by decide) h)))))))))
theorem yp_4 {post : SY → Prop} (hp : p < 80) (hc : c p = 4) (hD : D + 2 ≤ 16) (hnz : ¬ stk (D + 1) = 0) (h : post (nI T, tr, ep, nI (D + 1), nI E, nI l, nI t, c, a, upd stk D (stk D / stk (D + 1)), em, ce, po, yc, ye)) : wpY_plain post (nI T, tr, ep, nI (D + 2), nI E, nI l, nI t, c, a, stk, em, ce, po, yc, ye) (nI p) := by
  refine ⟨vp_in_nI (n := p) hp (by decide), ?_⟩
  rw [nI_clamp (n := p) (by omega), hc]
  refine nm_e ?_
  refine sy_topz (j := 0) (by omega) (by omega) ?_
  intro z hz
  have ez : z = stk (D + 1) := hz (by omega)
  subst ez
  refine sy_topz (j := 1) (by omega) (by omega) ?_
  intro y hy
  have ey : y = stk D := hy (by omega)
  subst ey
  refine sy_topz (j := 2) (by omega) (by omega) ?_
  intro x hx
  refine sy_tk4 ?_
  refine sy_dr (D := D) 2 (by omega) ?_
  refine br_f (by decide) (br_f (by decide) (br_t (by decide) ?_))
  unfold wY_plain_72
  refine sy_wk4 hnz ?_
  refine sy_push (by omega) ?_
  exact br_f (by decide) (br_f (by decide) (br_f (by decide) (br_f (by decide) (br_f (by decide) (br_f (by decide) (br_f (by decide) (br_f (by decide) (br_f (by decide) (br_f (by decide) h)))))))))
theorem yp_10 {post : SY → Prop} (hp : p < 80) (hc : c p = 10) (hD : D + 2 ≤ 16) (h : post (nI T, tr, ep, nI (D + 1), nI E, nI l, nI t, c, a, upd stk D ((if stk D = stk (D + 1) then (1 : Int32) else 0)), em, ce, po, yc, ye)) : wpY_plain post (nI T, tr, ep, nI (D + 2), nI E, nI l, nI t, c, a, stk, em, ce, po, yc, ye) (nI p) := by
  refine ⟨vp_in_nI (n := p) hp (by decide), ?_⟩
  rw [nI_clamp (n := p) (by omega), hc]
  refine nm_e ?_
  refine sy_topz (j := 0) (by omega) (by omega) ?_
  intro z hz
  have ez : z = stk (D + 1) := hz (by omega)
  subst ez
  refine sy_topz (j := 1) (by omega) (by omega) ?_
  intro y hy
  have ey : y = stk D := hy (by omega)
  subst ey
  refine sy_topz (j := 2) (by omega) (by omega) ?_
  intro x hx
  refine sy_tk10 ?_
  refine sy_dr (D := D) 2 (by omega) ?_
  refine br_f (by decide) (br_f (by decide) (br_f (by decide) (br_t rfl ?_)))
  unfold wY_plain_72
  refine sy_wk10 ?_
  refine sy_push (by omega) ?_
  exact br_f (by decide) (br_f (by decide) (br_f (by decide) (br_f (by decide) (br_f (by decide) (br_f (by decide) (br_f (by decide) (br_f (by decide) (br_f (by decide) (br_f (by decide) h)))))))))
theorem yp_11 {post : SY → Prop} (hp : p < 80) (hc : c p = 11) (hD : D + 2 ≤ 16) (h : post (nI T, tr, ep, nI (D + 1), nI E, nI l, nI t, c, a, upd stk D ((if stk (D + 1) ≤ stk D then (0 : Int32) else 1)), em, ce, po, yc, ye)) : wpY_plain post (nI T, tr, ep, nI (D + 2), nI E, nI l, nI t, c, a, stk, em, ce, po, yc, ye) (nI p) := by
  refine ⟨vp_in_nI (n := p) hp (by decide), ?_⟩
  rw [nI_clamp (n := p) (by omega), hc]
  refine nm_e ?_
  refine sy_topz (j := 0) (by omega) (by omega) ?_
  intro z hz
  have ez : z = stk (D + 1) := hz (by omega)
  subst ez
  refine sy_topz (j := 1) (by omega) (by omega) ?_
  intro y hy
  have ey : y = stk D := hy (by omega)
  subst ey
  refine sy_topz (j := 2) (by omega) (by omega) ?_
  intro x hx
  refine sy_tk11 ?_
  refine sy_dr (D := D) 2 (by omega) ?_
  refine br_f (by decide) (br_f (by decide) (br_f (by decide) (br_f (by decide) (br_t rfl ?_))))
  unfold wY_plain_72
  refine sy_wk11 ?_
  refine sy_push (by omega) ?_
  exact br_f (by decide) (br_f (by decide) (br_f (by decide) (br_f (by decide) (br_f (by decide) (br_f (by decide) (br_f (by decide) (br_f (by decide) (br_f (by decide) (br_f (by decide) h)))))))))
theorem yp_5 {post : SY → Prop} (hp : p < 80) (hc : c p = 5) (hD : D + 2 ≤ 16) (h : post (nI T, tr, ep, nI (D + 2), nI E, nI l, nI t, c, a, upd stk (D + 1) (stk D), em, ce, po, yc, ye)) : wpY_plain post (nI T, tr, ep, nI (D + 1), nI E, nI l, nI t, c, a, stk, em, ce, po, yc, ye) (nI p) := by
  refine ⟨vp_in_nI (n := p) hp (by decide), ?_⟩
  rw [nI_clamp (n := p) (by omega), hc]
  refine nm_e ?_
  refine sy_topz (j := 0) (by omega) (by omega) ?_
  intro z hz
  have ez : z = stk D := hz (by omega)
  subst ez
  refine sy_topz (j := 1) (by omega) (by omega) ?_
  intro y hy
  refine sy_topz (j := 2) (by omega) (by omega) ?_
  intro x hx
  refine sy_tk5 ?_
  refine sy_dr (D := D) 1 (by omega) ?_
  refine br_f (by decide) (br_f (by decide) (br_f (by decide) (br_f (by decide) (br_f (by decide) ?_))))
  refine br_t rfl ?_
  unfold wY_plain_99
  refine sy_push (by omega) ?_
  rw [sk_us]
  refine br_t rfl ?_
  refine sy_push (by omega) ?_
  exact br_f (by decide) (br_f (by decide) (br_f (by decide) (br_f (by decide) (br_f (by decide) (br_f (by decide) (br_f (by decide) h))))))
theorem yp_6 {post : SY → Prop} (hp : p < 80) (hc : c p = 6) (hD : D < 16) (h : post (nI T, tr, ep, nI (D), nI E, nI l, nI t, c, a, stk, em, ce, po, yc, ye)) : wpY_plain post (nI T, tr, ep, nI (D + 1), nI E, nI l, nI t, c, a, stk, em, ce, po, yc, ye) (nI p) := by
  refine ⟨vp_in_nI (n := p) hp (by decide), ?_⟩
  rw [nI_clamp (n := p) (by omega), hc]
  refine nm_e ?_
  refine sy_topz (j := 0) (by omega) (by omega) ?_
  intro z hz
  have ez : z = stk D := hz (by omega)
  subst ez
  refine sy_topz (j := 1) (by omega) (by omega) ?_
  intro y hy
  refine sy_topz (j := 2) (by omega) (by omega) ?_
  intro x hx
  refine sy_tk6 ?_
  refine sy_dr (D := D) 1 (by omega) ?_
  exact br_f (by decide) (br_f (by decide) (br_f (by decide) (br_f (by decide) (br_f (by decide) (br_f (by decide) (br_f (by decide) (br_f (by decide) (br_f (by decide) (br_f (by decide) (br_f (by decide) (br_f (by decide) (br_f (by decide) (br_f (by decide) (br_f (by decide) h))))))))))))))
theorem yp_7 {post : SY → Prop} (hp : p < 80) (hc : c p = 7) (hD : D + 2 ≤ 16) (h : post (nI T, tr, ep, nI (D + 2), nI E, nI l, nI t, c, a, upd (upd stk D (stk (D + 1))) (D + 1) (stk D), em, ce, po, yc, ye)) : wpY_plain post (nI T, tr, ep, nI (D + 2), nI E, nI l, nI t, c, a, stk, em, ce, po, yc, ye) (nI p) := by
  refine ⟨vp_in_nI (n := p) hp (by decide), ?_⟩
  rw [nI_clamp (n := p) (by omega), hc]
  refine nm_e ?_
  refine sy_topz (j := 0) (by omega) (by omega) ?_
  intro z hz
  have ez : z = stk (D + 1) := hz (by omega)
  subst ez
  refine sy_topz (j := 1) (by omega) (by omega) ?_
  intro y hy
  have ey : y = stk D := hy (by omega)
  subst ey
  refine sy_topz (j := 2) (by omega) (by omega) ?_
  intro x hx
  refine sy_tk7 ?_
  refine sy_dr (D := D) 2 (by omega) ?_
  refine br_f (by decide) (br_f (by decide) (br_f (by decide) (br_f (by decide) (br_f (by decide) ?_))))
  refine br_f (by decide) (br_t rfl ?_)
  unfold wY_plain_99
  refine sy_push (by omega) ?_
  refine br_f (by decide) (br_f (by decide) (br_t rfl ?_))
  unfold wY_plain_147
  refine sy_push (by omega) ?_
  exact br_f (by decide) (br_f (by decide) (br_f (by decide) (br_f (by decide) h)))
theorem yp_8 {post : SY → Prop} (hp : p < 80) (hc : c p = 8) (hD : D + 3 ≤ 16) (h : post (nI T, tr, ep, nI (D + 3), nI E, nI l, nI t, c, a, upd stk (D + 2) (stk D), em, ce, po, yc, ye)) : wpY_plain post (nI T, tr, ep, nI (D + 2), nI E, nI l, nI t, c, a, stk, em, ce, po, yc, ye) (nI p) := by
  refine ⟨vp_in_nI (n := p) hp (by decide), ?_⟩
  rw [nI_clamp (n := p) (by omega), hc]
  refine nm_e ?_
  refine sy_topz (j := 0) (by omega) (by omega) ?_
  intro z hz
  have ez : z = stk (D + 1) := hz (by omega)
  subst ez
  refine sy_topz (j := 1) (by omega) (by omega) ?_
  intro y hy
  have ey : y = stk D := hy (by omega)
  subst ey
  refine sy_topz (j := 2) (by omega) (by omega) ?_
  intro x hx
  refine sy_tk8 ?_
  refine sy_dr (D := D) 2 (by omega) ?_
  refine br_f (by decide) (br_f (by decide) (br_f (by decide) (br_f (by decide) (br_f (by decide) ?_))))
  refine br_f (by decide) (br_f (by decide) (br_f (by decide) (br_t rfl ?_)))
  refine sy_push (by omega) ?_
  refine sy_push (by omega) ?_
  rw [sk_us, sk_us]
  refine br_f (by decide) (br_t rfl ?_)
  unfold wY_plain_147
  refine sy_push (by omega) ?_
  exact br_f (by decide) (br_f (by decide) (br_f (by decide) (br_f (by decide) h)))
theorem yp_9 {post : SY → Prop} (hp : p < 80) (hc : c p = 9) (hD : D + 3 ≤ 16) (h : post (nI T, tr, ep, nI (D + 3), nI E, nI l, nI t, c, a, upd (upd (upd stk D (stk (D + 1))) (D + 1) (stk (D + 2))) (D + 2) (stk D), em, ce, po, yc, ye)) : wpY_plain post (nI T, tr, ep, nI (D + 3), nI E, nI l, nI t, c, a, stk, em, ce, po, yc, ye) (nI p) := by
  refine ⟨vp_in_nI (n := p) hp (by decide), ?_⟩
  rw [nI_clamp (n := p) (by omega), hc]
  refine nm_e ?_
  refine sy_topz (j := 0) (by omega) (by omega) ?_
  intro z hz
  have ez : z = stk (D + 2) := hz (by omega)
  subst ez
  refine sy_topz (j := 1) (by omega) (by omega) ?_
  intro y hy
  have ey : y = stk (D + 1) := hy (by omega)
  subst ey
  refine sy_topz (j := 2) (by omega) (by omega) ?_
  intro x hx
  have ex : x = stk D := hx (by omega)
  subst ex
  refine sy_tk9 ?_
  refine sy_dr (D := D) 3 (by omega) ?_
  refine br_f (by decide) (br_f (by decide) (br_f (by decide) (br_f (by decide) (br_f (by decide) ?_))))
  refine br_f (by decide) (br_f (by decide) (br_f (by decide) (br_f (by decide) (br_f (by decide) (br_f (by decide) (br_t rfl ?_))))))
  refine sy_push (by omega) ?_
  refine sy_push (by omega) ?_
  refine sy_push (by omega) ?_
  exact br_f (by decide) (br_f (by decide) (br_f (by decide) h))
theorem yp_12 {post : SY → Prop} (hp : p < 80) (hc : c p = 12) {n : Nat} (hn : n < 12) (hD : D < 16) (e : stk D = nI n) (h : post (nI T, tr, ep, nI (D + 1), nI E, nI l, nI t, c, a, upd stk D (ce n), em, ce, po, yc, ye)) : wpY_plain post (nI T, tr, ep, nI (D + 1), nI E, nI l, nI t, c, a, stk, em, ce, po, yc, ye) (nI p) := by
  refine ⟨vp_in_nI (n := p) hp (by decide), ?_⟩
  rw [nI_clamp (n := p) (by omega), hc]
  refine nm_e ?_
  refine sy_topz (j := 0) (by omega) (by omega) ?_
  intro z hz
  have ez : z = stk D := hz (by omega)
  subst ez
  refine sy_topz (j := 1) (by omega) (by omega) ?_
  intro y hy
  refine sy_topz (j := 2) (by omega) (by omega) ?_
  intro x hx
  refine sy_tk12 ?_
  refine sy_dr (D := D) 1 (by omega) ?_
  refine br_f (by decide) (br_f (by decide) (br_f (by decide) (br_f (by decide) (br_f (by decide) ?_))))
  refine br_f (by decide) (br_f (by decide) (br_f (by decide) (br_f (by decide) (br_f (by decide) (br_f (by decide) (br_f (by decide) ?_))))))
  rw [e]
  refine br_t rfl (br_f (nI_pos (by omega)) (br_f (nI_ge (b := 12) hn (by omega)) ⟨vp_in_nI hn (by decide), ?_⟩))
  rw [nI_clamp (n := n) (by omega)]
  refine sy_push (by omega) ?_
  exact br_f (by decide) (br_f (by decide) h)
theorem yp_13 {post : SY → Prop} (hp : p < 80) (hc : c p = 13) {n : Nat} (hn : n < 12) (hD : D + 2 ≤ 16) (e : stk (D + 1) = nI n) (h : post (nI T, tr, ep, nI (D), nI E, nI l, nI t, c, a, stk, em, upd ce n (stk D), po, yc, ye)) : wpY_plain post (nI T, tr, ep, nI (D + 2), nI E, nI l, nI t, c, a, stk, em, ce, po, yc, ye) (nI p) := by
  refine ⟨vp_in_nI (n := p) hp (by decide), ?_⟩
  rw [nI_clamp (n := p) (by omega), hc]
  refine nm_e ?_
  refine sy_topz (j := 0) (by omega) (by omega) ?_
  intro z hz
  have ez : z = stk (D + 1) := hz (by omega)
  subst ez
  refine sy_topz (j := 1) (by omega) (by omega) ?_
  intro y hy
  have ey : y = stk D := hy (by omega)
  subst ey
  refine sy_topz (j := 2) (by omega) (by omega) ?_
  intro x hx
  refine sy_tk13 ?_
  refine sy_dr (D := D) 2 (by omega) ?_
  refine br_f (by decide) (br_f (by decide) (br_f (by decide) (br_f (by decide) (br_f (by decide) ?_))))
  refine br_f (by decide) (br_f (by decide) (br_f (by decide) (br_f (by decide) (br_f (by decide) (br_f (by decide) (br_f (by decide) ?_))))))
  refine br_f (by decide) ?_
  rw [e]
  refine br_t rfl (br_f (nI_pos (by omega)) (br_f (nI_ge (b := 12) hn (by omega)) ⟨vp_in_nI hn (by decide), ?_⟩))
  rw [nI_clamp (n := n) (by omega)]
  refine nm_e ?_
  exact br_f (by decide) h
theorem yp_14 {post : SY → Prop} (hp : p < 80) (hc : c p = 14) (hE : E < 16) (hD : D < 16) (h : post (nI T, tr, ep, nI (D), nI (E + 1), nI l, nI t, c, a, stk, upd em E (stk D), ce, po, yc, ye)) : wpY_plain post (nI T, tr, ep, nI (D + 1), nI E, nI l, nI t, c, a, stk, em, ce, po, yc, ye) (nI p) := by
  refine ⟨vp_in_nI (n := p) hp (by decide), ?_⟩
  rw [nI_clamp (n := p) (by omega), hc]
  refine nm_e ?_
  refine sy_topz (j := 0) (by omega) (by omega) ?_
  intro z hz
  have ez : z = stk D := hz (by omega)
  subst ez
  refine sy_topz (j := 1) (by omega) (by omega) ?_
  intro y hy
  refine sy_topz (j := 2) (by omega) (by omega) ?_
  intro x hx
  refine sy_tk14 ?_
  refine sy_dr (D := D) 1 (by omega) ?_
  refine br_f (by decide) (br_f (by decide) (br_f (by decide) (br_f (by decide) (br_f (by decide) ?_))))
  refine br_f (by decide) (br_f (by decide) (br_f (by decide) (br_f (by decide) (br_f (by decide) (br_f (by decide) (br_f (by decide) ?_))))))
  refine br_f (by decide) (br_f (by decide) (br_t rfl (br_f (nI_ge (b := 16) hE (by omega)) ⟨vp_in_nI hE (by decide), ?_⟩)))
  rw [nI_clamp (n := E) (by omega)]
  exact nm_e (nm_r (nI_1 E) h)
theorem yh_p {post : SY → Prop} {x : Int32} (hp : p < 80) (hl : l < 8) (hc : c p = x) (h1 : ¬ x = 27) (h2 : ¬ x = 15) (h3 : ¬ x = 25) (h4 : x < 16) {D2 E2 : Int32} {stk2 em2 ce2 : Nat → Int32} (pl : ∀ post : SY → Prop, post (nI T, tr, ep, D2, E2, nI l, nI t, c, a, stk2, em2, ce2, po, yc, ye) → wpY_plain post (nI T, tr, ep, nI (D), nI E, nI l, nI t, c, a, stk, em, ce, po, yc, ye) (nI p)) (h : post (nI T, tr, ep, D2, E2, nI l, nI t, c, a, stk2, em2, ce2, upd po l (nI (p + 1)), yc, ye)) : wpY_carryOut post (nI T, tr, ep, nI (D), nI E, nI l, nI t, c, a, stk, em, ce, po, yc, ye) (nI p) := by
  refine ⟨vp_in_nI (n := p) hp (by decide), ?_⟩
  rw [nI_clamp (n := p) (by omega), hc]
  refine nm_e ?_
  refine br_f h1 ?_
  refine sy_cwN hp (by rw [hc]; exact h2) ?_
  refine br_t rfl (br_f h2 (br_f h3 (br_t h4 ?_)))
  refine pl _ ?_
  refine ⟨vp_in_nI (n := l) hl (by decide), ?_⟩
  rw [nI_clamp (n := l) (by omega), nI_1]
  exact nm_e h
theorem yc_0 {post : SY → Prop} (hp : p < 80) (hl : l < 8) (hc : c p = 0) (hD : D < 16) (h : post (nI T, tr, ep, nI (D + 1), nI E, nI l, nI t, c, a, upd stk D (a p), em, ce, upd po l (nI (p + 1)), yc, ye)) : wpY_carryOut post (nI T, tr, ep, nI (D), nI E, nI l, nI t, c, a, stk, em, ce, po, yc, ye) (nI p) :=
  yh_p hp hl hc (by decide) (by decide) (by decide) (by decide) (fun _ k => yp_0 hp hc hD k) h
theorem yc_1 {post : SY → Prop} (hp : p < 80) (hl : l < 8) (hc : c p = 1) (hD : D + 2 ≤ 16) (h : post (nI T, tr, ep, nI (D + 1), nI E, nI l, nI t, c, a, upd stk D (stk D + stk (D + 1)), em, ce, upd po l (nI (p + 1)), yc, ye)) : wpY_carryOut post (nI T, tr, ep, nI (D + 2), nI E, nI l, nI t, c, a, stk, em, ce, po, yc, ye) (nI p) :=
  yh_p hp hl hc (by decide) (by decide) (by decide) (by decide) (fun _ k => yp_1 hp hc hD k) h
theorem yc_2 {post : SY → Prop} (hp : p < 80) (hl : l < 8) (hc : c p = 2) (hD : D + 2 ≤ 16) (h : post (nI T, tr, ep, nI (D + 1), nI E, nI l, nI t, c, a, upd stk D (stk D - stk (D + 1)), em, ce, upd po l (nI (p + 1)), yc, ye)) : wpY_carryOut post (nI T, tr, ep, nI (D + 2), nI E, nI l, nI t, c, a, stk, em, ce, po, yc, ye) (nI p) :=
  yh_p hp hl hc (by decide) (by decide) (by decide) (by decide) (fun _ k => yp_2 hp hc hD k) h
theorem yc_3 {post : SY → Prop} (hp : p < 80) (hl : l < 8) (hc : c p = 3) (hD : D + 2 ≤ 16) (h : post (nI T, tr, ep, nI (D + 1), nI E, nI l, nI t, c, a, upd stk D (stk D * stk (D + 1)), em, ce, upd po l (nI (p + 1)), yc, ye)) : wpY_carryOut post (nI T, tr, ep, nI (D + 2), nI E, nI l, nI t, c, a, stk, em, ce, po, yc, ye) (nI p) :=
  yh_p hp hl hc (by decide) (by decide) (by decide) (by decide) (fun _ k => yp_3 hp hc hD k) h
theorem yc_4 {post : SY → Prop} (hp : p < 80) (hl : l < 8) (hc : c p = 4) (hD : D + 2 ≤ 16) (hnz : ¬ stk (D + 1) = 0) (h : post (nI T, tr, ep, nI (D + 1), nI E, nI l, nI t, c, a, upd stk D (stk D / stk (D + 1)), em, ce, upd po l (nI (p + 1)), yc, ye)) : wpY_carryOut post (nI T, tr, ep, nI (D + 2), nI E, nI l, nI t, c, a, stk, em, ce, po, yc, ye) (nI p) :=
  yh_p hp hl hc (by decide) (by decide) (by decide) (by decide) (fun _ k => yp_4 hp hc hD hnz k) h
theorem yc_10 {post : SY → Prop} (hp : p < 80) (hl : l < 8) (hc : c p = 10) (hD : D + 2 ≤ 16) (h : post (nI T, tr, ep, nI (D + 1), nI E, nI l, nI t, c, a, upd stk D ((if stk D = stk (D + 1) then (1 : Int32) else 0)), em, ce, upd po l (nI (p + 1)), yc, ye)) : wpY_carryOut post (nI T, tr, ep, nI (D + 2), nI E, nI l, nI t, c, a, stk, em, ce, po, yc, ye) (nI p) :=
  yh_p hp hl hc (by decide) (by decide) (by decide) (by decide) (fun _ k => yp_10 hp hc hD k) h
theorem yc_11 {post : SY → Prop} (hp : p < 80) (hl : l < 8) (hc : c p = 11) (hD : D + 2 ≤ 16) (h : post (nI T, tr, ep, nI (D + 1), nI E, nI l, nI t, c, a, upd stk D ((if stk (D + 1) ≤ stk D then (0 : Int32) else 1)), em, ce, upd po l (nI (p + 1)), yc, ye)) : wpY_carryOut post (nI T, tr, ep, nI (D + 2), nI E, nI l, nI t, c, a, stk, em, ce, po, yc, ye) (nI p) :=
  yh_p hp hl hc (by decide) (by decide) (by decide) (by decide) (fun _ k => yp_11 hp hc hD k) h
theorem yc_5 {post : SY → Prop} (hp : p < 80) (hl : l < 8) (hc : c p = 5) (hD : D + 2 ≤ 16) (h : post (nI T, tr, ep, nI (D + 2), nI E, nI l, nI t, c, a, upd stk (D + 1) (stk D), em, ce, upd po l (nI (p + 1)), yc, ye)) : wpY_carryOut post (nI T, tr, ep, nI (D + 1), nI E, nI l, nI t, c, a, stk, em, ce, po, yc, ye) (nI p) :=
  yh_p hp hl hc (by decide) (by decide) (by decide) (by decide) (fun _ k => yp_5 hp hc hD k) h
theorem yc_6 {post : SY → Prop} (hp : p < 80) (hl : l < 8) (hc : c p = 6) (hD : D < 16) (h : post (nI T, tr, ep, nI (D), nI E, nI l, nI t, c, a, stk, em, ce, upd po l (nI (p + 1)), yc, ye)) : wpY_carryOut post (nI T, tr, ep, nI (D + 1), nI E, nI l, nI t, c, a, stk, em, ce, po, yc, ye) (nI p) :=
  yh_p hp hl hc (by decide) (by decide) (by decide) (by decide) (fun _ k => yp_6 hp hc hD k) h
theorem yc_7 {post : SY → Prop} (hp : p < 80) (hl : l < 8) (hc : c p = 7) (hD : D + 2 ≤ 16) (h : post (nI T, tr, ep, nI (D + 2), nI E, nI l, nI t, c, a, upd (upd stk D (stk (D + 1))) (D + 1) (stk D), em, ce, upd po l (nI (p + 1)), yc, ye)) : wpY_carryOut post (nI T, tr, ep, nI (D + 2), nI E, nI l, nI t, c, a, stk, em, ce, po, yc, ye) (nI p) :=
  yh_p hp hl hc (by decide) (by decide) (by decide) (by decide) (fun _ k => yp_7 hp hc hD k) h
theorem yc_8 {post : SY → Prop} (hp : p < 80) (hl : l < 8) (hc : c p = 8) (hD : D + 3 ≤ 16) (h : post (nI T, tr, ep, nI (D + 3), nI E, nI l, nI t, c, a, upd stk (D + 2) (stk D), em, ce, upd po l (nI (p + 1)), yc, ye)) : wpY_carryOut post (nI T, tr, ep, nI (D + 2), nI E, nI l, nI t, c, a, stk, em, ce, po, yc, ye) (nI p) :=
  yh_p hp hl hc (by decide) (by decide) (by decide) (by decide) (fun _ k => yp_8 hp hc hD k) h
theorem yc_9 {post : SY → Prop} (hp : p < 80) (hl : l < 8) (hc : c p = 9) (hD : D + 3 ≤ 16) (h : post (nI T, tr, ep, nI (D + 3), nI E, nI l, nI t, c, a, upd (upd (upd stk D (stk (D + 1))) (D + 1) (stk (D + 2))) (D + 2) (stk D), em, ce, upd po l (nI (p + 1)), yc, ye)) : wpY_carryOut post (nI T, tr, ep, nI (D + 3), nI E, nI l, nI t, c, a, stk, em, ce, po, yc, ye) (nI p) :=
  yh_p hp hl hc (by decide) (by decide) (by decide) (by decide) (fun _ k => yp_9 hp hc hD k) h
theorem yc_12 {post : SY → Prop} (hp : p < 80) (hl : l < 8) (hc : c p = 12) {n : Nat} (hn : n < 12) (hD : D < 16) (e : stk D = nI n) (h : post (nI T, tr, ep, nI (D + 1), nI E, nI l, nI t, c, a, upd stk D (ce n), em, ce, upd po l (nI (p + 1)), yc, ye)) : wpY_carryOut post (nI T, tr, ep, nI (D + 1), nI E, nI l, nI t, c, a, stk, em, ce, po, yc, ye) (nI p) :=
  yh_p hp hl hc (by decide) (by decide) (by decide) (by decide) (fun _ k => yp_12 hp hc hn hD e k) h
theorem yc_13 {post : SY → Prop} (hp : p < 80) (hl : l < 8) (hc : c p = 13) {n : Nat} (hn : n < 12) (hD : D + 2 ≤ 16) (e : stk (D + 1) = nI n) (h : post (nI T, tr, ep, nI (D), nI E, nI l, nI t, c, a, stk, em, upd ce n (stk D), upd po l (nI (p + 1)), yc, ye)) : wpY_carryOut post (nI T, tr, ep, nI (D + 2), nI E, nI l, nI t, c, a, stk, em, ce, po, yc, ye) (nI p) :=
  yh_p hp hl hc (by decide) (by decide) (by decide) (by decide) (fun _ k => yp_13 hp hc hn hD e k) h
theorem yc_14 {post : SY → Prop} (hp : p < 80) (hl : l < 8) (hc : c p = 14) (hE : E < 16) (hD : D < 16) (h : post (nI T, tr, ep, nI (D), nI (E + 1), nI l, nI t, c, a, stk, upd em E (stk D), ce, upd po l (nI (p + 1)), yc, ye)) : wpY_carryOut post (nI T, tr, ep, nI (D + 1), nI E, nI l, nI t, c, a, stk, em, ce, po, yc, ye) (nI p) :=
  yh_p hp hl hc (by decide) (by decide) (by decide) (by decide) (fun _ k => yp_14 hp hc hE hD k) h
theorem yl_16T {post : Int32 → SY → Prop} (h80 : T ≤ 80) (hp : p < T) (hc : c p = 16) (hD : D < 16) (hz : stk D = 0) {b : Nat} (hb : sk_bh c true (T - (p + 1)) (p + 1) 0 = b) (h : post (nI (b + 1)) (nI T, tr, ep, nI (D + 1), nI E, nI l, nI t, c, a, stk, em, ce, po, yc, ye)) : wpY_led post (nI T, tr, ep, nI (D + 1), nI E, nI l, nI t, c, a, stk, em, ce, po, yc, ye) (nI p) := by
  refine ⟨vp_in_nI (n := p) (by omega) (by decide), ?_⟩
  rw [nI_clamp (n := p) (by omega), hc]
  refine nm_e ?_
  refine sy_topz (j := 0) (by omega) (by omega) ?_
  intro z hz0
  have ez : z = stk D := hz0 (by omega)
  subst ez
  refine nm_r (pk_mul 80 l) ?_
  refine br_t rfl (br_t hz ?_)
  refine sy_behind (e := true) h80 hp (by decide) ?_
  rw [hb]
  rw [nI_1]; exact h
theorem yl_16F {post : Int32 → SY → Prop} (h80 : T ≤ 80) (hp : p < T) (hc : c p = 16) (hD : D < 16) (hz : ¬ stk D = 0) (h : post (nI (p + 1)) (nI T, tr, ep, nI (D + 1), nI E, nI l, nI t, c, a, stk, em, ce, po, yc, ye)) : wpY_led post (nI T, tr, ep, nI (D + 1), nI E, nI l, nI t, c, a, stk, em, ce, po, yc, ye) (nI p) := by
  refine ⟨vp_in_nI (n := p) (by omega) (by decide), ?_⟩
  rw [nI_clamp (n := p) (by omega), hc]
  refine nm_e ?_
  refine sy_topz (j := 0) (by omega) (by omega) ?_
  intro z hz0
  have ez : z = stk D := hz0 (by omega)
  subst ez
  refine nm_r (pk_mul 80 l) ?_
  refine br_t rfl (br_f hz ?_)
  refine br_f (by decide) (br_f (by decide) (br_f (by decide) (br_f (by decide) (br_f (by decide) (br_f (by decide) ?_)))))
  rw [nI_1]; exact h
theorem yl_17 {post : Int32 → SY → Prop} (h80 : T ≤ 80) (hp : p < T) (hc : c p = 17) (hD : D ≤ 16) {b : Nat} (hb : sk_bh c false (T - (p + 1)) (p + 1) 0 = b) (h : post (nI (b + 1)) (nI T, tr, ep, nI (D), nI E, nI l, nI t, c, a, stk, em, ce, po, yc, ye)) : wpY_led post (nI T, tr, ep, nI (D), nI E, nI l, nI t, c, a, stk, em, ce, po, yc, ye) (nI p) := by
  refine ⟨vp_in_nI (n := p) (by omega) (by decide), ?_⟩
  rw [nI_clamp (n := p) (by omega), hc]
  refine nm_e ?_
  refine sy_topz (j := 0) (by omega) (by omega) ?_
  intro z hz0
  refine nm_r (pk_mul 80 l) ?_
  refine br_f (by decide) (br_t rfl ?_)
  refine sy_behind (e := false) h80 hp (by decide) ?_
  rw [hb]
  rw [nI_1]; exact h
theorem yl_18 {post : Int32 → SY → Prop} (h80 : T ≤ 80) (hp : p < T) (hc : c p = 18) (hD : D ≤ 16) (h : post (nI (p + 1)) (nI T, tr, ep, nI (D), nI E, nI l, nI t, c, a, stk, em, ce, po, yc, ye)) : wpY_led post (nI T, tr, ep, nI (D), nI E, nI l, nI t, c, a, stk, em, ce, po, yc, ye) (nI p) := by
  refine ⟨vp_in_nI (n := p) (by omega) (by decide), ?_⟩
  rw [nI_clamp (n := p) (by omega), hc]
  refine nm_e ?_
  refine sy_topz (j := 0) (by omega) (by omega) ?_
  intro z hz0
  refine nm_r (pk_mul 80 l) ?_
  refine br_f (by decide) ?_
  refine br_f (by decide) (br_f (by decide) (br_f (by decide) (br_f (by decide) (br_f (by decide) (br_f (by decide) ?_)))))
  rw [nI_1]; exact h
theorem yl_19 {post : Int32 → SY → Prop} (h80 : T ≤ 80) (hp : p < T) (hc : c p = 19) (hD : D ≤ 16) (h : post (nI (p + 1)) (nI T, tr, ep, nI (D), nI E, nI l, nI t, c, a, stk, em, ce, po, yc, ye)) : wpY_led post (nI T, tr, ep, nI (D), nI E, nI l, nI t, c, a, stk, em, ce, po, yc, ye) (nI p) := by
  refine ⟨vp_in_nI (n := p) (by omega) (by decide), ?_⟩
  rw [nI_clamp (n := p) (by omega), hc]
  refine nm_e ?_
  refine sy_topz (j := 0) (by omega) (by omega) ?_
  intro z hz0
  refine nm_r (pk_mul 80 l) ?_
  refine br_f (by decide) ?_
  refine br_f (by decide) (br_f (by decide) (br_f (by decide) (br_f (by decide) (br_f (by decide) (br_f (by decide) ?_)))))
  rw [nI_1]; exact h
theorem yl_20T {post : Int32 → SY → Prop} (h80 : T ≤ 80) (hp : p < T) (hc : c p = 20) (hD : D < 16) (hz : stk D = 0) {s k : Nat} {u : List (Nat × Nat)} (hR : sk_R c p = (s, k) :: u) (h : post (nI (s + 1)) (nI T, tr, ep, nI (D + 1), nI E, nI l, nI (t + 1), c, a, stk, em, ce, po, yc, ye)) : wpY_led post (nI T, tr, ep, nI (D + 1), nI E, nI l, nI t, c, a, stk, em, ce, po, yc, ye) (nI p) := by
  refine ⟨vp_in_nI (n := p) (by omega) (by decide), ?_⟩
  rw [nI_clamp (n := p) (by omega), hc]
  refine nm_e ?_
  refine sy_topz (j := 0) (by omega) (by omega) ?_
  intro z hz0
  have ez : z = stk D := hz0 (by omega)
  subst ez
  refine nm_r (pk_mul 80 l) ?_
  refine br_f (by decide) (br_f (by decide) (br_f (by decide) (br_t rfl (br_t hz ?_))))
  unfold wY_led_91
  refine nm_r (nI_1 t) ?_
  refine sy_around (by omega) ?_
  rw [hR, sk_fn, if_pos (Or.inl (by decide))]
  rw [nI_1]; exact h
theorem yl_20F {post : Int32 → SY → Prop} (h80 : T ≤ 80) (hp : p < T) (hc : c p = 20) (hD : D < 16) (hz : ¬ stk D = 0) (h : post (nI (p + 1)) (nI T, tr, ep, nI (D + 1), nI E, nI l, nI t, c, a, stk, em, ce, po, yc, ye)) : wpY_led post (nI T, tr, ep, nI (D + 1), nI E, nI l, nI t, c, a, stk, em, ce, po, yc, ye) (nI p) := by
  refine ⟨vp_in_nI (n := p) (by omega) (by decide), ?_⟩
  rw [nI_clamp (n := p) (by omega), hc]
  refine nm_e ?_
  refine sy_topz (j := 0) (by omega) (by omega) ?_
  intro z hz0
  have ez : z = stk D := hz0 (by omega)
  subst ez
  refine nm_r (pk_mul 80 l) ?_
  refine br_f (by decide) (br_f (by decide) (br_f (by decide) (br_t rfl (br_f hz ?_))))
  refine br_f (by decide) (br_f (by decide) (br_f (by decide) ?_))
  rw [nI_1]; exact h
theorem yl_21T {post : Int32 → SY → Prop} (h80 : T ≤ 80) (hp : p < T) (hc : c p = 21) (hD : D < 16) (hz : stk D = 0) {b : Nat} (hb : sk_bh c false (T - (p + 1)) (p + 1) 0 = b) (h : post (nI (b + 1)) (nI T, tr, ep, nI (D + 1), nI E, nI l, nI t, c, a, stk, em, ce, po, yc, ye)) : wpY_led post (nI T, tr, ep, nI (D + 1), nI E, nI l, nI t, c, a, stk, em, ce, po, yc, ye) (nI p) := by
  refine ⟨vp_in_nI (n := p) (by omega) (by decide), ?_⟩
  rw [nI_clamp (n := p) (by omega), hc]
  refine nm_e ?_
  refine sy_topz (j := 0) (by omega) (by omega) ?_
  intro z hz0
  have ez : z = stk D := hz0 (by omega)
  subst ez
  refine nm_r (pk_mul 80 l) ?_
  refine br_f (by decide) (br_f (by decide) (br_t rfl (br_t hz ?_)))
  refine sy_behind (e := false) h80 hp (by decide) ?_
  rw [hb]
  rw [nI_1]; exact h
theorem yl_21F {post : Int32 → SY → Prop} (h80 : T ≤ 80) (hp : p < T) (hc : c p = 21) (hD : D < 16) (hz : ¬ stk D = 0) (h : post (nI (p + 1)) (nI T, tr, ep, nI (D + 1), nI E, nI l, nI t, c, a, stk, em, ce, po, yc, ye)) : wpY_led post (nI T, tr, ep, nI (D + 1), nI E, nI l, nI t, c, a, stk, em, ce, po, yc, ye) (nI p) := by
  refine ⟨vp_in_nI (n := p) (by omega) (by decide), ?_⟩
  rw [nI_clamp (n := p) (by omega), hc]
  refine nm_e ?_
  refine sy_topz (j := 0) (by omega) (by omega) ?_
  intro z hz0
  have ez : z = stk D := hz0 (by omega)
  subst ez
  refine nm_r (pk_mul 80 l) ?_
  refine br_f (by decide) (br_f (by decide) (br_t rfl (br_f hz ?_)))
  refine br_f (by decide) (br_f (by decide) (br_f (by decide) (br_f (by decide) ?_)))
  rw [nI_1]; exact h
theorem yl_22 {post : Int32 → SY → Prop} (h80 : T ≤ 80) (hp : p < T) (hc : c p = 22) (hD : D ≤ 16) {s k : Nat} {u : List (Nat × Nat)} (hR : sk_R c p = (s, k) :: u) (h : post (nI (s + 1)) (nI T, tr, ep, nI (D), nI E, nI l, nI (t + 1), c, a, stk, em, ce, po, yc, ye)) : wpY_led post (nI T, tr, ep, nI (D), nI E, nI l, nI t, c, a, stk, em, ce, po, yc, ye) (nI p) := by
  refine ⟨vp_in_nI (n := p) (by omega) (by decide), ?_⟩
  rw [nI_clamp (n := p) (by omega), hc]
  refine nm_e ?_
  refine sy_topz (j := 0) (by omega) (by omega) ?_
  intro z hz0
  refine nm_r (pk_mul 80 l) ?_
  refine br_f (by decide) (br_f (by decide) (br_f (by decide) (br_f (by decide) (br_t rfl ?_))))
  unfold wY_led_91
  refine nm_r (nI_1 t) ?_
  refine sy_around (by omega) ?_
  rw [hR, sk_fn, if_pos (Or.inl (by decide))]
  rw [nI_1]; exact h
theorem yl_23T {post : Int32 → SY → Prop} (h80 : T ≤ 80) (hp : p < T) (hc : c p = 23) (hl : l ≤ 7) (hD : D < 16) (hz : 0 < stk D) (h : post (nI (p + 1)) (nI T, tr, ep, nI (D + 1), nI E, nI l, nI t, c, a, stk, em, ce, po, upd yc (80 * l + p) 0, upd ye (80 * l + p) (stk D))) : wpY_led post (nI T, tr, ep, nI (D + 1), nI E, nI l, nI t, c, a, stk, em, ce, po, yc, ye) (nI p) := by
  refine ⟨vp_in_nI (n := p) (by omega) (by decide), ?_⟩
  rw [nI_clamp (n := p) (by omega), hc]
  refine nm_e ?_
  refine sy_topz (j := 0) (by omega) (by omega) ?_
  intro z hz0
  have ez : z = stk D := hz0 (by omega)
  subst ez
  refine nm_r (pk_mul 80 l) ?_
  refine br_f (by decide) (br_f (by decide) (br_f (by decide) (br_f (by decide) (br_f (by decide) (br_t rfl ?_)))))
  rw [nI_add]
  refine ⟨vp_in_nI (n := 80 * l + p) (by omega) (by decide), ?_⟩
  rw [nI_clamp (n := 80 * l + p) (by omega)]
  refine nm_e ⟨vp_in_nI (n := 80 * l + p) (by omega) (by decide), ?_⟩
  refine nm_e ?_
  refine br_t hz (br_f (by decide) ?_)
  rw [nI_1]; exact h
theorem yl_23F {post : Int32 → SY → Prop} (h80 : T ≤ 80) (hp : p < T) (hc : c p = 23) (hl : l ≤ 7) (hD : D < 16) (hz : ¬ 0 < stk D) {b : Nat} (hb : sk_bh c false (T - (p + 1)) (p + 1) 0 = b) (h : post (nI (b + 1)) (nI T, tr, ep, nI (D + 1), nI E, nI l, nI t, c, a, stk, em, ce, po, upd yc (80 * l + p) 0, upd ye (80 * l + p) (stk D))) : wpY_led post (nI T, tr, ep, nI (D + 1), nI E, nI l, nI t, c, a, stk, em, ce, po, yc, ye) (nI p) := by
  refine ⟨vp_in_nI (n := p) (by omega) (by decide), ?_⟩
  rw [nI_clamp (n := p) (by omega), hc]
  refine nm_e ?_
  refine sy_topz (j := 0) (by omega) (by omega) ?_
  intro z hz0
  have ez : z = stk D := hz0 (by omega)
  subst ez
  refine nm_r (pk_mul 80 l) ?_
  refine br_f (by decide) (br_f (by decide) (br_f (by decide) (br_f (by decide) (br_f (by decide) (br_t rfl ?_)))))
  rw [nI_add]
  refine ⟨vp_in_nI (n := 80 * l + p) (by omega) (by decide), ?_⟩
  rw [nI_clamp (n := 80 * l + p) (by omega)]
  refine nm_e ⟨vp_in_nI (n := 80 * l + p) (by omega) (by decide), ?_⟩
  refine nm_e ?_
  refine br_f hz ?_
  refine sy_behind (e := false) h80 hp (by decide) ?_
  rw [hb]
  rw [nI_1]; exact h
theorem yl_24T {post : Int32 → SY → Prop} (h80 : T ≤ 80) (hp : p < T) (hc : c p = 24) (hl : l ≤ 7) (hD : D ≤ 16) {s k : Nat} {u : List (Nat × Nat)} (hR : sk_R c p = (s, k) :: u) (hs : s < 80) (hk : ye (80 * l + s) ≤ yc (80 * l + s) + 1) (h : post (nI (p + 1)) (nI T, tr, ep, nI (D), nI E, nI l, nI (t + 1), c, a, stk, em, ce, po, upd yc (80 * l + s) (yc (80 * l + s) + 1), ye)) : wpY_led post (nI T, tr, ep, nI (D), nI E, nI l, nI t, c, a, stk, em, ce, po, yc, ye) (nI p) := by
  refine ⟨vp_in_nI (n := p) (by omega) (by decide), ?_⟩
  rw [nI_clamp (n := p) (by omega), hc]
  refine nm_e ?_
  refine sy_topz (j := 0) (by omega) (by omega) ?_
  intro z hz0
  refine nm_r (pk_mul 80 l) ?_
  refine br_f (by decide) (br_f (by decide) (br_f (by decide) (br_f (by decide) (br_f (by decide) (br_f (by decide) (br_t rfl ?_))))))
  refine sy_around (by omega) ?_
  rw [hR, sk_fn, if_pos (Or.inl (by decide))]
  refine nm_r (nI_1 t) ?_
  refine br_t (nI_pos' (by omega)) ?_
  rw [nI_add]
  refine ⟨vp_in_nI (n := 80 * l + s) (by omega) (by decide), vp_in_nI (n := 80 * l + s) (by omega) (by decide), ?_⟩
  rw [nI_clamp (n := 80 * l + s) (by omega)]
  refine nm_e ⟨vp_in_nI (n := 80 * l + s) (by omega) (by decide), vp_in_nI (n := 80 * l + s) (by omega) (by decide), ?_⟩
  refine br_t (by rw [pk_us]; exact hk) ?_
  rw [nI_1]; exact h
theorem yl_24F {post : Int32 → SY → Prop} (h80 : T ≤ 80) (hp : p < T) (hc : c p = 24) (hl : l ≤ 7) (hD : D ≤ 16) {s k : Nat} {u : List (Nat × Nat)} (hR : sk_R c p = (s, k) :: u) (hs : s < 80) (hk : ¬ ye (80 * l + s) ≤ yc (80 * l + s) + 1) (h : post (nI (s + 1)) (nI T, tr, ep, nI (D), nI E, nI l, nI (t + 1), c, a, stk, em, ce, po, upd yc (80 * l + s) (yc (80 * l + s) + 1), ye)) : wpY_led post (nI T, tr, ep, nI (D), nI E, nI l, nI t, c, a, stk, em, ce, po, yc, ye) (nI p) := by
  refine ⟨vp_in_nI (n := p) (by omega) (by decide), ?_⟩
  rw [nI_clamp (n := p) (by omega), hc]
  refine nm_e ?_
  refine sy_topz (j := 0) (by omega) (by omega) ?_
  intro z hz0
  refine nm_r (pk_mul 80 l) ?_
  refine br_f (by decide) (br_f (by decide) (br_f (by decide) (br_f (by decide) (br_f (by decide) (br_f (by decide) (br_t rfl ?_))))))
  refine sy_around (by omega) ?_
  rw [hR, sk_fn, if_pos (Or.inl (by decide))]
  refine nm_r (nI_1 t) ?_
  refine br_t (nI_pos' (by omega)) ?_
  rw [nI_add]
  refine ⟨vp_in_nI (n := 80 * l + s) (by omega) (by decide), vp_in_nI (n := 80 * l + s) (by omega) (by decide), ?_⟩
  rw [nI_clamp (n := 80 * l + s) (by omega)]
  refine nm_e ⟨vp_in_nI (n := 80 * l + s) (by omega) (by decide), vp_in_nI (n := 80 * l + s) (by omega) (by decide), ?_⟩
  refine br_f (by rw [pk_us]; exact hk) ?_
  rw [nI_1]; exact h
theorem yh_l {post : SY → Prop} {x r : Int32} {k : Nat} (hp : p < 80) (hl : l < 8) (hD : D + k ≤ 16) (hc : c p = x) (h1 : ¬ x = 27) (h2 : ¬ x = 15) (h3 : ¬ x = 25) (h4 : ¬ x < 16) (tk : ∀ post : Int32 → Prop, post (nI k) → wpY_takes post x) {t2 : Nat} {yc2 ye2 : Nat → Int32} (ld : ∀ post : Int32 → SY → Prop, post r (nI T, tr, ep, nI (D + k), nI E, nI l, nI t2, c, a, stk, em, ce, po, yc2, ye2) → wpY_led post (nI T, tr, ep, nI (D + k), nI E, nI l, nI t, c, a, stk, em, ce, po, yc, ye) (nI p)) (h : post (nI T, tr, ep, nI (D), nI E, nI l, nI t2, c, a, stk, em, ce, upd po l r, yc2, ye2)) : wpY_carryOut post (nI T, tr, ep, nI (D + k), nI E, nI l, nI t, c, a, stk, em, ce, po, yc, ye) (nI p) := by
  refine ⟨vp_in_nI (n := p) hp (by decide), ?_⟩
  rw [nI_clamp (n := p) (by omega), hc]
  refine nm_e ?_
  refine br_f h1 ?_
  refine sy_cwN hp (by rw [hc]; exact h2) ?_
  refine br_t rfl (br_f h2 (br_f h3 (br_f h4 ?_)))
  refine ld _ ?_
  refine tk _ ?_
  refine sy_dr k hD ?_
  refine ⟨vp_in_nI (n := l) hl (by decide), ?_⟩
  rw [nI_clamp (n := l) (by omega)]
  exact nm_e h
theorem yc_16T {post : SY → Prop} (h80 : T ≤ 80) (hp : p < T) (hl : l ≤ 7) (hc : c p = 16) (hD : D < 16) (hz : stk D = 0) {b : Nat} (hb : sk_bh c true (T - (p + 1)) (p + 1) 0 = b) (h : post (nI T, tr, ep, nI (D), nI E, nI l, nI t, c, a, stk, em, ce, upd po l (nI (b + 1)), yc, ye)) : wpY_carryOut post (nI T, tr, ep, nI (D + 1), nI E, nI l, nI t, c, a, stk, em, ce, po, yc, ye) (nI p) :=
  yh_l (k := 1) (by omega) (by omega) (by omega) hc (by decide) (by decide) (by decide) (by decide) (fun _ k => sy_tk16 k) (fun _ k => yl_16T h80 hp hc hD hz hb k) h
theorem yc_16F {post : SY → Prop} (h80 : T ≤ 80) (hp : p < T) (hl : l ≤ 7) (hc : c p = 16) (hD : D < 16) (hz : ¬ stk D = 0) (h : post (nI T, tr, ep, nI (D), nI E, nI l, nI t, c, a, stk, em, ce, upd po l (nI (p + 1)), yc, ye)) : wpY_carryOut post (nI T, tr, ep, nI (D + 1), nI E, nI l, nI t, c, a, stk, em, ce, po, yc, ye) (nI p) :=
  yh_l (k := 1) (by omega) (by omega) (by omega) hc (by decide) (by decide) (by decide) (by decide) (fun _ k => sy_tk16 k) (fun _ k => yl_16F h80 hp hc hD hz k) h
theorem yc_17 {post : SY → Prop} (h80 : T ≤ 80) (hp : p < T) (hl : l ≤ 7) (hc : c p = 17) (hD : D ≤ 16) {b : Nat} (hb : sk_bh c false (T - (p + 1)) (p + 1) 0 = b) (h : post (nI T, tr, ep, nI (D), nI E, nI l, nI t, c, a, stk, em, ce, upd po l (nI (b + 1)), yc, ye)) : wpY_carryOut post (nI T, tr, ep, nI (D), nI E, nI l, nI t, c, a, stk, em, ce, po, yc, ye) (nI p) :=
  yh_l (k := 0) (by omega) (by omega) (by omega) hc (by decide) (by decide) (by decide) (by decide) (fun _ k => sy_tk17 k) (fun _ k => yl_17 h80 hp hc hD hb k) h
theorem yc_18 {post : SY → Prop} (h80 : T ≤ 80) (hp : p < T) (hl : l ≤ 7) (hc : c p = 18) (hD : D ≤ 16) (h : post (nI T, tr, ep, nI (D), nI E, nI l, nI t, c, a, stk, em, ce, upd po l (nI (p + 1)), yc, ye)) : wpY_carryOut post (nI T, tr, ep, nI (D), nI E, nI l, nI t, c, a, stk, em, ce, po, yc, ye) (nI p) :=
  yh_l (k := 0) (by omega) (by omega) (by omega) hc (by decide) (by decide) (by decide) (by decide) (fun _ k => sy_tk18 k) (fun _ k => yl_18 h80 hp hc hD k) h
theorem yc_19 {post : SY → Prop} (h80 : T ≤ 80) (hp : p < T) (hl : l ≤ 7) (hc : c p = 19) (hD : D ≤ 16) (h : post (nI T, tr, ep, nI (D), nI E, nI l, nI t, c, a, stk, em, ce, upd po l (nI (p + 1)), yc, ye)) : wpY_carryOut post (nI T, tr, ep, nI (D), nI E, nI l, nI t, c, a, stk, em, ce, po, yc, ye) (nI p) :=
  yh_l (k := 0) (by omega) (by omega) (by omega) hc (by decide) (by decide) (by decide) (by decide) (fun _ k => sy_tk19 k) (fun _ k => yl_19 h80 hp hc hD k) h
theorem yc_20T {post : SY → Prop} (h80 : T ≤ 80) (hp : p < T) (hl : l ≤ 7) (hc : c p = 20) (hD : D < 16) (hz : stk D = 0) {s k : Nat} {u : List (Nat × Nat)} (hR : sk_R c p = (s, k) :: u) (h : post (nI T, tr, ep, nI (D), nI E, nI l, nI (t + 1), c, a, stk, em, ce, upd po l (nI (s + 1)), yc, ye)) : wpY_carryOut post (nI T, tr, ep, nI (D + 1), nI E, nI l, nI t, c, a, stk, em, ce, po, yc, ye) (nI p) :=
  yh_l (k := 1) (by omega) (by omega) (by omega) hc (by decide) (by decide) (by decide) (by decide) (fun _ k => sy_tk20 k) (fun _ k => yl_20T h80 hp hc hD hz hR k) h
theorem yc_20F {post : SY → Prop} (h80 : T ≤ 80) (hp : p < T) (hl : l ≤ 7) (hc : c p = 20) (hD : D < 16) (hz : ¬ stk D = 0) (h : post (nI T, tr, ep, nI (D), nI E, nI l, nI t, c, a, stk, em, ce, upd po l (nI (p + 1)), yc, ye)) : wpY_carryOut post (nI T, tr, ep, nI (D + 1), nI E, nI l, nI t, c, a, stk, em, ce, po, yc, ye) (nI p) :=
  yh_l (k := 1) (by omega) (by omega) (by omega) hc (by decide) (by decide) (by decide) (by decide) (fun _ k => sy_tk20 k) (fun _ k => yl_20F h80 hp hc hD hz k) h
theorem yc_21T {post : SY → Prop} (h80 : T ≤ 80) (hp : p < T) (hl : l ≤ 7) (hc : c p = 21) (hD : D < 16) (hz : stk D = 0) {b : Nat} (hb : sk_bh c false (T - (p + 1)) (p + 1) 0 = b) (h : post (nI T, tr, ep, nI (D), nI E, nI l, nI t, c, a, stk, em, ce, upd po l (nI (b + 1)), yc, ye)) : wpY_carryOut post (nI T, tr, ep, nI (D + 1), nI E, nI l, nI t, c, a, stk, em, ce, po, yc, ye) (nI p) :=
  yh_l (k := 1) (by omega) (by omega) (by omega) hc (by decide) (by decide) (by decide) (by decide) (fun _ k => sy_tk21 k) (fun _ k => yl_21T h80 hp hc hD hz hb k) h
theorem yc_21F {post : SY → Prop} (h80 : T ≤ 80) (hp : p < T) (hl : l ≤ 7) (hc : c p = 21) (hD : D < 16) (hz : ¬ stk D = 0) (h : post (nI T, tr, ep, nI (D), nI E, nI l, nI t, c, a, stk, em, ce, upd po l (nI (p + 1)), yc, ye)) : wpY_carryOut post (nI T, tr, ep, nI (D + 1), nI E, nI l, nI t, c, a, stk, em, ce, po, yc, ye) (nI p) :=
  yh_l (k := 1) (by omega) (by omega) (by omega) hc (by decide) (by decide) (by decide) (by decide) (fun _ k => sy_tk21 k) (fun _ k => yl_21F h80 hp hc hD hz k) h
theorem yc_22 {post : SY → Prop} (h80 : T ≤ 80) (hp : p < T) (hl : l ≤ 7) (hc : c p = 22) (hD : D ≤ 16) {s k : Nat} {u : List (Nat × Nat)} (hR : sk_R c p = (s, k) :: u) (h : post (nI T, tr, ep, nI (D), nI E, nI l, nI (t + 1), c, a, stk, em, ce, upd po l (nI (s + 1)), yc, ye)) : wpY_carryOut post (nI T, tr, ep, nI (D), nI E, nI l, nI t, c, a, stk, em, ce, po, yc, ye) (nI p) :=
  yh_l (k := 0) (by omega) (by omega) (by omega) hc (by decide) (by decide) (by decide) (by decide) (fun _ k => sy_tk22 k) (fun _ k => yl_22 h80 hp hc hD hR k) h
theorem yc_23T {post : SY → Prop} (h80 : T ≤ 80) (hp : p < T) (hl : l ≤ 7) (hc : c p = 23) (hD : D < 16) (hz : 0 < stk D) (h : post (nI T, tr, ep, nI (D), nI E, nI l, nI t, c, a, stk, em, ce, upd po l (nI (p + 1)), upd yc (80 * l + p) 0, upd ye (80 * l + p) (stk D))) : wpY_carryOut post (nI T, tr, ep, nI (D + 1), nI E, nI l, nI t, c, a, stk, em, ce, po, yc, ye) (nI p) :=
  yh_l (k := 1) (by omega) (by omega) (by omega) hc (by decide) (by decide) (by decide) (by decide) (fun _ k => sy_tk23 k) (fun _ k => yl_23T h80 hp hc hl hD hz k) h
theorem yc_23F {post : SY → Prop} (h80 : T ≤ 80) (hp : p < T) (hl : l ≤ 7) (hc : c p = 23) (hD : D < 16) (hz : ¬ 0 < stk D) {b : Nat} (hb : sk_bh c false (T - (p + 1)) (p + 1) 0 = b) (h : post (nI T, tr, ep, nI (D), nI E, nI l, nI t, c, a, stk, em, ce, upd po l (nI (b + 1)), upd yc (80 * l + p) 0, upd ye (80 * l + p) (stk D))) : wpY_carryOut post (nI T, tr, ep, nI (D + 1), nI E, nI l, nI t, c, a, stk, em, ce, po, yc, ye) (nI p) :=
  yh_l (k := 1) (by omega) (by omega) (by omega) hc (by decide) (by decide) (by decide) (by decide) (fun _ k => sy_tk23 k) (fun _ k => yl_23F h80 hp hc hl hD hz hb k) h
theorem yc_24T {post : SY → Prop} (h80 : T ≤ 80) (hp : p < T) (hl : l ≤ 7) (hc : c p = 24) (hD : D ≤ 16) {s k : Nat} {u : List (Nat × Nat)} (hR : sk_R c p = (s, k) :: u) (hs : s < 80) (hk : ye (80 * l + s) ≤ yc (80 * l + s) + 1) (h : post (nI T, tr, ep, nI (D), nI E, nI l, nI (t + 1), c, a, stk, em, ce, upd po l (nI (p + 1)), upd yc (80 * l + s) (yc (80 * l + s) + 1), ye)) : wpY_carryOut post (nI T, tr, ep, nI (D), nI E, nI l, nI t, c, a, stk, em, ce, po, yc, ye) (nI p) :=
  yh_l (k := 0) (by omega) (by omega) (by omega) hc (by decide) (by decide) (by decide) (by decide) (fun _ k => sy_tk24 k) (fun _ k => yl_24T h80 hp hc hl hD hR hs hk k) h
theorem yc_24F {post : SY → Prop} (h80 : T ≤ 80) (hp : p < T) (hl : l ≤ 7) (hc : c p = 24) (hD : D ≤ 16) {s k : Nat} {u : List (Nat × Nat)} (hR : sk_R c p = (s, k) :: u) (hs : s < 80) (hk : ¬ ye (80 * l + s) ≤ yc (80 * l + s) + 1) (h : post (nI T, tr, ep, nI (D), nI E, nI l, nI (t + 1), c, a, stk, em, ce, upd po l (nI (s + 1)), upd yc (80 * l + s) (yc (80 * l + s) + 1), ye)) : wpY_carryOut post (nI T, tr, ep, nI (D), nI E, nI l, nI t, c, a, stk, em, ce, po, yc, ye) (nI p) :=
  yh_l (k := 0) (by omega) (by omega) (by omega) hc (by decide) (by decide) (by decide) (by decide) (fun _ k => sy_tk24 k) (fun _ k => yl_24F h80 hp hc hl hD hR hs hk k) h
theorem yc_27 {post : SY → Prop} (hp : p < 80) (hc : c p = 27) (h : post (nI T, tr, ep, nI (D), nI E, nI l - 1, nI t, c, a, stk, em, ce, po, yc, ye)) : wpY_carryOut post (nI T, tr, ep, nI (D), nI E, nI l, nI t, c, a, stk, em, ce, po, yc, ye) (nI p) := by
  refine ⟨vp_in_nI (n := p) hp (by decide), ?_⟩
  rw [nI_clamp (n := p) (by omega), hc]
  exact nm_e (br_t rfl (nm_e h))
theorem yc_15V {post : SY → Prop} {q n : Nat} (h80 : T ≤ 80) (hp : p < T) (hl : l ≤ 7) (hc : c p = 15) (ha : a p = nI n) (hq : q < T) (hd : sk_df c a q (nI n)) (hlq : ∀ r, r < q → ¬ sk_df c a r (nI n)) (h28 : c q ≠ 26) (hD : D < 16) (h : post (nI T, tr, ep, nI (D + 1), nI E, nI l, nI t, c, a, upd stk D (nI (sk_vs c q)), em, ce, upd po l (nI (p + 1)), yc, ye)) : wpY_carryOut post (nI T, tr, ep, nI (D), nI E, nI l, nI t, c, a, stk, em, ce, po, yc, ye) (nI p) := by
  refine ⟨vp_in_nI (n := p) (by omega) (by decide), ?_⟩
  rw [nI_clamp (n := p) (by omega), hc]
  refine nm_e ?_
  refine br_f (by decide) ?_
  refine sy_cwV h80 hp hq hc ha hd hlq h28 ?_
  refine br_t rfl (br_t rfl ⟨vp_in_nI (n := p) (by omega) (by decide), ?_⟩)
  rw [ha]
  refine sy_dfS h80 hq hd hlq ?_
  refine sy_vars (by omega) ?_
  refine sy_push hD ?_
  refine ⟨vp_in_nI (n := l) (by omega) (by decide), ?_⟩
  rw [nI_clamp (n := l) (by omega), nI_1]
  exact nm_e h
theorem yc_15W {post : SY → Prop} {q n : Nat} (h80 : T ≤ 80) (hp : p < T) (hl : l < 7) (hc : c p = 15) (ha : a p = nI n) (hq : q < T) (hd : sk_df c a q (nI n)) (hlq : ∀ r, r < q → ¬ sk_df c a r (nI n)) (h26 : c q = 26) (h : post (nI T, tr, ep, nI (D), nI E, nI (l + 1), nI (t + 1), c, a, stk, em, ce, upd (upd po l (nI (p + 1))) (l + 1) (nI (q + 1)), yc, ye)) : wpY_carryOut post (nI T, tr, ep, nI (D), nI E, nI l, nI t, c, a, stk, em, ce, po, yc, ye) (nI p) := by
  refine ⟨vp_in_nI (n := p) (by omega) (by decide), ?_⟩
  rw [nI_clamp (n := p) (by omega), hc]
  refine nm_e ?_
  refine br_f (by decide) ?_
  refine sy_cwW h80 hp hq hc ha hd hlq h26 ?_
  refine br_f (by decide) (nm_r (nI_1 t) ⟨vp_in_nI (n := l) (by omega) (by decide), ?_⟩)
  rw [nI_clamp (n := l) (by omega), nI_1]
  refine nm_e (nm_r (nI_1 l) ⟨vp_in_nI (n := p) (by omega) (by decide), ?_⟩)
  rw [ha]
  refine sy_dfS h80 hq hd hlq ?_
  refine ⟨vp_in_nI (n := l + 1) (by omega) (by decide), ?_⟩
  rw [nI_clamp (n := l + 1) (by omega), nI_1]
  exact nm_e h
theorem yc_25 {post : SY → Prop} {q : Nat} (hp : p < 80) (hl : l ≤ 7) (hc : c p = 25) (hq : q < 80) (hf : sk_fn c 23 (sk_R c p) = nI q) (hD : D < 16) (h : post (nI T, tr, ep, nI (D + 1), nI E, nI l, nI t, c, a, upd stk D (yc (80 * l + q)), em, ce, upd po l (nI (p + 1)), yc, ye)) : wpY_carryOut post (nI T, tr, ep, nI (D), nI E, nI l, nI t, c, a, stk, em, ce, po, yc, ye) (nI p) := by
  refine ⟨vp_in_nI (n := p) hp (by decide), ?_⟩
  rw [nI_clamp (n := p) (by omega), hc]
  refine nm_e ?_
  refine br_f (by decide) ?_
  refine sy_cwN hp (by rw [hc]; decide) ?_
  refine br_t rfl (br_f (by decide) (br_t rfl ?_))
  refine sy_around (by omega) ?_
  rw [hf]
  refine br_t (nI_pos' (by omega)) ?_
  rw [show (80 : Int32) * nI l = nI (80 * l) from pk_mul 80 l, nI_add]
  refine ⟨vp_in_nI (n := 80 * l + q) (by omega) (by decide), ?_⟩
  rw [nI_clamp (n := 80 * l + q) (by omega)]
  unfold wY_carryOut_181
  refine sy_push hD ?_
  refine ⟨vp_in_nI (n := l) (by omega) (by decide), ?_⟩
  rw [nI_clamp (n := l) (by omega), nI_1]
  exact nm_e h
end
