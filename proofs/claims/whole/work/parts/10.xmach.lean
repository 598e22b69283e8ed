theorem sk_us (f : Nat → Int32) (k : Nat) : upd f k (f k) = f := by
  funext j
  by_cases h : j = k
  · subst h; exact pk_us
  · exact pk_un h
theorem sk_divL (x y : Int32) : (x.toInt64 / y.toInt64).toInt32 = x / y := by
  apply Int32.toInt_inj.mp
  rw [Int64.toInt_toInt32, Int64.toInt_div, Int32.toInt_toInt64, Int32.toInt_toInt64, Int32.toInt_div, Int.bmod_bmod_of_dvd (by decide)]
theorem sk_0i (y : Int32) (h : ¬ y = 0) : ¬ y.toInt64 = 0 := by
  intro z
  apply h
  apply Int32.toInt_inj.mp
  have := congrArg Int64.toInt z
  rw [Int32.toInt_toInt64] at this
  rw [this]
  decide
section
variable {xT tr ep ind vc pc xD xE cur tu ca : Int32} {c a nm nv ps pst psk jm cp stk em ce rp ct cm : Nat → Int32}
variable {D E p t l : Nat}
theorem sx_put {post : SX → Prop} {x : Int32} (hD : D < 16) (hp : post (xT, tr, ep, ind, vc, pc, nI (D + 1), xE, cur, tu, ca, c, a, nm, nv, ps, pst, psk, jm, cp, upd stk D x, em, ce, rp, ct, cm)) : wpX_put post (xT, tr, ep, ind, vc, pc, nI D, xE, cur, tu, ca, c, a, nm, nv, ps, pst, psk, jm, cp, stk, em, ce, rp, ct, cm) x := by
  refine ⟨vp_in_nI (n := D) (by omega) (by decide), ?_⟩
  rw [nI_clamp (n := D) (by omega)]
  exact nm_e (nm_r (nI_1 D) hp)
theorem sx_take {post : Int32 → SX → Prop} (hD : D < 16) (hp : post (stk D) (xT, tr, ep, ind, vc, pc, nI D, xE, cur, tu, ca, c, a, nm, nv, ps, pst, psk, jm, cp, stk, em, ce, rp, ct, cm)) : wpX_take post (xT, tr, ep, ind, vc, pc, nI (D + 1), xE, cur, tu, ca, c, a, nm, nv, ps, pst, psk, jm, cp, stk, em, ce, rp, ct, cm) := by
  refine nm_r (nI_pred D) ⟨vp_in_nI (n := D) (by omega) (by decide), ?_⟩
  rw [nI_clamp (n := D) (by omega)]
  exact hp
theorem sx_calc {post : SX → Prop} {x r : Int32} (hD : D + 2 ≤ 16) (hr : ∀ post' : Int32 → Prop, post' r → wpX_resultOf post' (xT, tr, ep, ind, vc, pc, nI D, xE, cur, tu, ca, c, a, nm, nv, ps, pst, psk, jm, cp, stk, em, ce, rp, ct, cm) x (stk D) (stk (D + 1))) (hp : post (xT, tr, ep, ind, vc, pc, nI (D + 1), xE, cur, tu, ca, c, a, nm, nv, ps, pst, psk, jm, cp, upd stk D r, em, ce, rp, ct, cm)) : wpX_calculate post (xT, tr, ep, ind, vc, pc, nI (D + 2), xE, cur, tu, ca, c, a, nm, nv, ps, pst, psk, jm, cp, stk, em, ce, rp, ct, cm) x := by
  unfold wpX_calculate
  refine sx_take (D := D + 1) (by omega) ?_
  refine sx_take (D := D) (by omega) ?_
  refine hr _ ?_
  exact sx_put (by omega) hp
theorem sx_up1 {post : SX → Prop} (hD : D + 2 ≤ 16) (hp : post (xT, tr, ep, ind, vc, pc, nI (D + 2), xE, cur, tu, ca, c, a, nm, nv, ps, pst, psk, jm, cp, upd (upd stk D (stk (D + 1))) (D + 1) (stk D), em, ce, rp, ct, cm)) : wpX_bringUp post (xT, tr, ep, ind, vc, pc, nI (D + 2), xE, cur, tu, ca, c, a, nm, nv, ps, pst, psk, jm, cp, stk, em, ce, rp, ct, cm) 1 := by
  have e0 : nI (D + 1) - 1 = nI D := nI_pred D
  refine nm_r (nI_pred (D + 1)) ?_
  rw [e0]
  refine ⟨vp_in_nI (n := D) (by omega) (by decide), ?_⟩
  rw [nI_clamp (n := D) (by omega)]
  refine nm_e (nm_e ⟨2, br_f (nI_ge (by omega) (by omega)) ⟨?_, vp_in_nI (n := D) (by omega) (by decide), ?_⟩⟩)
  · rw [nI_1]; exact vp_in_nI (by omega) (by decide)
  · rw [nI_1, nI_clamp (n := D) (by omega), nI_clamp (n := D + 1) (by omega)]
    refine nm_e (nm_e (br_t (nI_le (Nat.le_refl _) (by omega)) ⟨vp_in_nI (by omega) (by decide), ?_⟩))
    rw [nI_clamp (n := D + 1) (by omega)]
    exact nm_e hp
theorem sx_up2 {post : SX → Prop} (hD : D + 3 ≤ 16) (hp : post (xT, tr, ep, ind, vc, pc, nI (D + 3), xE, cur, tu, ca, c, a, nm, nv, ps, pst, psk, jm, cp, upd (upd (upd stk D (stk (D + 1))) (D + 1) (stk (D + 2))) (D + 2) (stk D), em, ce, rp, ct, cm)) : wpX_bringUp post (xT, tr, ep, ind, vc, pc, nI (D + 3), xE, cur, tu, ca, c, a, nm, nv, ps, pst, psk, jm, cp, stk, em, ce, rp, ct, cm) 2 := by
  have e0 : nI (D + 2) - 2 = nI D := pk_sub (a := D + 2) (b := 2) (by omega)
  refine nm_r (nI_pred (D + 2)) ?_
  rw [e0]
  refine ⟨vp_in_nI (n := D) (by omega) (by decide), ?_⟩
  rw [nI_clamp (n := D) (by omega)]
  refine nm_e (nm_e ⟨3, br_f (nI_ge (by omega) (by omega)) ⟨?_, vp_in_nI (n := D) (by omega) (by decide), ?_⟩⟩)
  · rw [nI_1]; exact vp_in_nI (by omega) (by decide)
  · rw [nI_1, nI_clamp (n := D) (by omega), nI_clamp (n := D + 1) (by omega)]
    refine nm_e (nm_e (br_f (nI_ge (by omega) (by omega)) ⟨?_, vp_in_nI (n := D + 1) (by omega) (by decide), ?_⟩))
    · rw [nI_1]; exact vp_in_nI (by omega) (by decide)
    · rw [nI_1, nI_clamp (n := D + 1) (by omega), nI_clamp (n := D + 1 + 1) (by omega)]
      refine nm_e (nm_e (br_t (nI_le (Nat.le_refl _) (by omega)) ⟨vp_in_nI (by omega) (by decide), ?_⟩))
      rw [nI_clamp (n := D + 2) (by omega), pk_un (by omega)]
      exact nm_e hp
theorem sx_cot {post : Int32 → Prop} {m : Nat} (hp : p < 80) (e : cp p = nI m) (h : post (nI (l * 6 + m))) : wpX_countOfToken post (xT, tr, ep, ind, vc, pc, xD, xE, nI p, tu, nI (l + 1), c, a, nm, nv, ps, pst, psk, jm, cp, stk, em, ce, rp, ct, cm) := by
  refine ⟨vp_in_nI (n := p) hp (by decide), ?_⟩
  rw [nI_pred, nI_clamp (n := p) (by omega), e, show nI l * 6 = nI (l * 6) from pk_mul l 6, nI_add]
  exact h
theorem sx_tback {post : SX → Prop} {b : Int32} (hp : p < 80) (e : jm p = b) (h : post (xT, tr, ep, ind, vc, pc, xD, xE, b, nI (t + 1), ca, c, a, nm, nv, ps, pst, psk, jm, cp, stk, em, ce, rp, ct, cm)) : wpX_turnBack post (xT, tr, ep, ind, vc, pc, xD, xE, nI p, nI t, ca, c, a, nm, nv, ps, pst, psk, jm, cp, stk, em, ce, rp, ct, cm) := by
  refine nm_r (nI_1 t) ⟨vp_in_nI (n := p) hp (by decide), ?_⟩
  rw [nI_clamp (n := p) (by omega), e]
  exact nm_e h
theorem sx_untT {post : SX → Prop} {b : Int32} (hp : p < 80) (hD : D < 16) (hz : stk D = 0) (e : jm p = b) (h : post (xT, tr, ep, ind, vc, pc, nI D, xE, b, nI (t + 1), ca, c, a, nm, nv, ps, pst, psk, jm, cp, stk, em, ce, rp, ct, cm)) : wpX_endUntil post (xT, tr, ep, ind, vc, pc, nI (D + 1), xE, nI p, nI t, ca, c, a, nm, nv, ps, pst, psk, jm, cp, stk, em, ce, rp, ct, cm) := by
  unfold wpX_endUntil
  refine sx_take hD ?_
  refine br_t hz ?_
  exact sx_tback hp e h
theorem sx_untF {post : SX → Prop} (hD : D < 16) (hz : ¬ stk D = 0) (h : post (xT, tr, ep, ind, vc, pc, nI D, xE, nI (p + 1), tu, ca, c, a, nm, nv, ps, pst, psk, jm, cp, stk, em, ce, rp, ct, cm)) : wpX_endUntil post (xT, tr, ep, ind, vc, pc, nI (D + 1), xE, nI p, tu, ca, c, a, nm, nv, ps, pst, psk, jm, cp, stk, em, ce, rp, ct, cm) := by
  unfold wpX_endUntil
  refine sx_take hD ?_
  exact br_f hz (nm_r (nI_1 p) h)
theorem sx_84T {post : SX → Prop} {b : Int32} (hp : p < 80) (hD : D < 16) (hz : stk D = 0) (e : jm p = b) (h : post (xT, tr, ep, ind, vc, pc, nI D, xE, b, tu, ca, c, a, nm, nv, ps, pst, psk, jm, cp, stk, em, ce, rp, ct, cm)) : wX_goOn_84 post xT tr ep ind vc pc (nI (D + 1)) xE (nI p) tu ca c a nm nv ps pst psk jm cp stk em ce rp ct cm := by
  unfold wX_goOn_84
  refine sx_take hD ?_
  refine br_t hz ⟨vp_in_nI (n := p) hp (by decide), ?_⟩
  rw [nI_clamp (n := p) (by omega), e]
  exact nm_e h
theorem sx_84F {post : SX → Prop} (hD : D < 16) (hz : ¬ stk D = 0) (h : post (xT, tr, ep, ind, vc, pc, nI D, xE, nI (p + 1), tu, ca, c, a, nm, nv, ps, pst, psk, jm, cp, stk, em, ce, rp, ct, cm)) : wX_goOn_84 post xT tr ep ind vc pc (nI (D + 1)) xE (nI p) tu ca c a nm nv ps pst psk jm cp stk em ce rp ct cm := by
  unfold wX_goOn_84
  refine sx_take hD ?_
  exact br_f hz (nm_r (nI_1 p) h)
theorem sx_scT {post : SX → Prop} {m : Nat} (hp : p < 80) (hD : D < 16) (hz : 0 < stk D) (e : cp p = nI m) (hm : l * 6 + m < 48) (h : post (xT, tr, ep, ind, vc, pc, nI D, xE, nI (p + 1), tu, nI (l + 1), c, a, nm, nv, ps, pst, psk, jm, cp, stk, em, ce, rp, upd ct (l * 6 + m) 0, upd cm (l * 6 + m) (stk D))) : wpX_startCount post (xT, tr, ep, ind, vc, pc, nI (D + 1), xE, nI p, tu, nI (l + 1), c, a, nm, nv, ps, pst, psk, jm, cp, stk, em, ce, rp, ct, cm) := by
  unfold wpX_startCount
  refine sx_take hD ?_
  refine br_t hz ?_
  refine sx_cot hp e ?_
  refine ⟨vp_in_nI hm (by decide), ?_⟩
  rw [nI_clamp (n := l * 6 + m) (by omega)]
  exact nm_e ⟨vp_in_nI hm (by decide), nm_e (nm_r (nI_1 p) h)⟩
theorem sx_scF {post : SX → Prop} {b : Int32} (hp : p < 80) (hD : D < 16) (hz : ¬ 0 < stk D) (e : jm p = b) (h : post (xT, tr, ep, ind, vc, pc, nI D, xE, b, tu, ca, c, a, nm, nv, ps, pst, psk, jm, cp, stk, em, ce, rp, ct, cm)) : wpX_startCount post (xT, tr, ep, ind, vc, pc, nI (D + 1), xE, nI p, tu, ca, c, a, nm, nv, ps, pst, psk, jm, cp, stk, em, ce, rp, ct, cm) := by
  unfold wpX_startCount
  refine sx_take hD ?_
  refine br_f hz ⟨vp_in_nI (n := p) hp (by decide), ?_⟩
  rw [nI_clamp (n := p) (by omega), e]
  exact nm_e h
theorem sx_acT {post : SX → Prop} {m : Nat} (hp : p < 80) (e : cp p = nI m) (hm : l * 6 + m < 48) (hc : cm (l * 6 + m) ≤ ct (l * 6 + m) + 1) (h : post (xT, tr, ep, ind, vc, pc, xD, xE, nI (p + 1), nI (t + 1), nI (l + 1), c, a, nm, nv, ps, pst, psk, jm, cp, stk, em, ce, rp, upd ct (l * 6 + m) (ct (l * 6 + m) + 1), cm)) : wpX_advanceCount post (xT, tr, ep, ind, vc, pc, xD, xE, nI p, nI t, nI (l + 1), c, a, nm, nv, ps, pst, psk, jm, cp, stk, em, ce, rp, ct, cm) := by
  unfold wpX_advanceCount
  refine sx_cot hp e ?_
  refine (nm_r (nI_1 t) ⟨vp_in_nI hm (by decide), vp_in_nI hm (by decide), ?_⟩)
  rw [nI_clamp (n := l * 6 + m) (by omega)]
  refine nm_e ⟨vp_in_nI hm (by decide), vp_in_nI hm (by decide), br_t ?_ (nm_r (nI_1 p) h)⟩
  rw [pk_us]; exact hc
theorem sx_acF {post : SX → Prop} {m : Nat} {b : Int32} (hp : p < 80) (e : cp p = nI m) (hm : l * 6 + m < 48) (hc : ¬ cm (l * 6 + m) ≤ ct (l * 6 + m) + 1) (ej : jm p = b) (h : post (xT, tr, ep, ind, vc, pc, xD, xE, b, nI (t + 1), nI (l + 1), c, a, nm, nv, ps, pst, psk, jm, cp, stk, em, ce, rp, upd ct (l * 6 + m) (ct (l * 6 + m) + 1), cm)) : wpX_advanceCount post (xT, tr, ep, ind, vc, pc, xD, xE, nI p, nI t, nI (l + 1), c, a, nm, nv, ps, pst, psk, jm, cp, stk, em, ce, rp, ct, cm) := by
  unfold wpX_advanceCount
  refine sx_cot hp e ?_
  refine (nm_r (nI_1 t) ⟨vp_in_nI hm (by decide), vp_in_nI hm (by decide), ?_⟩)
  rw [nI_clamp (n := l * 6 + m) (by omega)]
  refine nm_e ⟨vp_in_nI hm (by decide), vp_in_nI hm (by decide), br_f ?_ ⟨vp_in_nI (n := p) hp (by decide), ?_⟩⟩
  · rw [pk_us]; exact hc
  · rw [nI_clamp (n := p) (by omega), ej]
    exact nm_e h
theorem sx_pc {post : SX → Prop} {m : Nat} (hp : p < 80) (hD : D < 16) (e : cp p = nI m) (hm : l * 6 + m < 48) (h : post (xT, tr, ep, ind, vc, pc, nI (D + 1), xE, nI (p + 1), tu, nI (l + 1), c, a, nm, nv, ps, pst, psk, jm, cp, upd stk D (ct (l * 6 + m)), em, ce, rp, ct, cm)) : wpX_putCount post (xT, tr, ep, ind, vc, pc, nI D, xE, nI p, tu, nI (l + 1), c, a, nm, nv, ps, pst, psk, jm, cp, stk, em, ce, rp, ct, cm) := by
  unfold wpX_putCount
  refine sx_cot hp e ?_
  refine ⟨vp_in_nI hm (by decide), ?_⟩
  rw [nI_clamp (n := l * 6 + m) (by omega)]
  exact sx_put hD (nm_r (nI_1 p) h)
theorem sx_ec {post : SX → Prop} (hl : l < 8) (h : post (xT, tr, ep, ind, vc, pc, xD, xE, rp l, tu, nI l, c, a, nm, nv, ps, pst, psk, jm, cp, stk, em, ce, rp, ct, cm)) : wpX_endCall post (xT, tr, ep, ind, vc, pc, xD, xE, cur, tu, nI (l + 1), c, a, nm, nv, ps, pst, psk, jm, cp, stk, em, ce, rp, ct, cm) := by
  refine nm_r (nI_pred l) ⟨vp_in_nI hl (by decide), ?_⟩
  rw [nI_clamp (n := l) (by omega)]
  exact nm_e h
theorem sx_unV {post : SX → Prop} {n : Nat} (hn : n < 12) (hD : D < 16) (e : nm n = 2) (h : post (xT, tr, ep, ind, vc, pc, nI (D + 1), xE, nI (p + 1), tu, ca, c, a, nm, nv, ps, pst, psk, jm, cp, upd stk D (nv n), em, ce, rp, ct, cm)) : wpX_useName post (xT, tr, ep, ind, vc, pc, nI D, xE, nI p, tu, ca, c, a, nm, nv, ps, pst, psk, jm, cp, stk, em, ce, rp, ct, cm) (nI n) := by
  refine ⟨vp_in_nI hn (by decide), ?_⟩
  rw [nI_clamp (n := n) (by omega)]
  exact br_t e ⟨vp_in_nI hn (by decide), sx_put hD (nm_r (nI_1 p) h)⟩
theorem sx_unW {post : SX → Prop} {n : Nat} (hn : n < 12) (hl : l < 8) (e : ¬ nm n = 2) (h : post (xT, tr, ep, ind, vc, pc, xD, xE, nv n, nI (t + 1), nI (l + 1), c, a, nm, nv, ps, pst, psk, jm, cp, stk, em, ce, upd rp l (nI (p + 1)), ct, cm)) : wpX_useName post (xT, tr, ep, ind, vc, pc, xD, xE, nI p, nI t, nI l, c, a, nm, nv, ps, pst, psk, jm, cp, stk, em, ce, rp, ct, cm) (nI n) := by
  refine ⟨vp_in_nI hn (by decide), ?_⟩
  rw [nI_clamp (n := n) (by omega)]
  refine br_f e (nm_r (nI_1 t) ⟨vp_in_nI hl (by decide), ?_⟩)
  rw [nI_clamp (n := l) (by omega), nI_1]
  exact nm_e (nm_r (nI_1 l) ⟨vp_in_nI hn (by decide), nm_e h⟩)
theorem sx_mv12 {post : SX → Prop} {n : Nat} (hn : n < 12) (hD : D < 16) (e : stk D = nI n) (h : post (xT, tr, ep, ind, vc, pc, nI (D + 1), xE, cur, tu, ca, c, a, nm, nv, ps, pst, psk, jm, cp, upd stk D (ce n), em, ce, rp, ct, cm)) : wpX_moveNumber post (xT, tr, ep, ind, vc, pc, nI (D + 1), xE, cur, tu, ca, c, a, nm, nv, ps, pst, psk, jm, cp, stk, em, ce, rp, ct, cm) 12 := by
  unfold wpX_moveNumber
  refine sx_take hD ?_
  rw [e, nI_clamp (n := n) (by omega)]
  exact br_t rfl ⟨vp_in_nI hn (by decide), sx_put hD h⟩
theorem sx_mv13 {post : SX → Prop} {n : Nat} (hn : n < 12) (hD : D + 2 ≤ 16) (e : stk (D + 1) = nI n) (h : post (xT, tr, ep, ind, vc, pc, nI D, xE, cur, tu, ca, c, a, nm, nv, ps, pst, psk, jm, cp, stk, em, upd ce n (stk D), rp, ct, cm)) : wpX_moveNumber post (xT, tr, ep, ind, vc, pc, nI (D + 2), xE, cur, tu, ca, c, a, nm, nv, ps, pst, psk, jm, cp, stk, em, ce, rp, ct, cm) 13 := by
  unfold wpX_moveNumber
  refine sx_take (D := D + 1) (by omega) ?_
  refine br_f (by decide) (br_t rfl ?_)
  refine sx_take (D := D) (by omega) ?_
  rw [e, nI_clamp (n := n) (by omega)]
  exact ⟨vp_in_nI hn (by decide), nm_e h⟩
theorem sx_mv14 {post : SX → Prop} (hE : E < 16) (hD : D < 16) (h : post (xT, tr, ep, ind, vc, pc, nI D, nI (E + 1), cur, tu, ca, c, a, nm, nv, ps, pst, psk, jm, cp, stk, upd em E (stk D), ce, rp, ct, cm)) : wpX_moveNumber post (xT, tr, ep, ind, vc, pc, nI (D + 1), nI E, cur, tu, ca, c, a, nm, nv, ps, pst, psk, jm, cp, stk, em, ce, rp, ct, cm) 14 := by
  unfold wpX_moveNumber
  refine sx_take hD ?_
  refine (br_f (by decide) (br_f (by decide) ⟨vp_in_nI hE (by decide), ?_⟩))
  rw [nI_clamp (n := E) (by omega)]
  exact nm_e (nm_r (nI_1 E) h)
end
section
variable {yT tr ep yD yE lv yt : Int32} {c a stk em ce po yc ye : Nat → Int32}
variable {D E p t l : Nat}
theorem sy_topz {post : Int32 → Prop} {j : Nat} (hj : j ≤ 2) (hD : D ≤ 16) (h : ∀ z : Int32, (j < D → z = stk (D - 1 - j)) → post z) : wpY_top post (yT, tr, ep, nI D, yE, lv, yt, c, a, stk, em, ce, po, yc, ye) (nI j) := by
  by_cases y : j < D
  · exact sy_top hD y (h _ (fun _ => rfl))
  · exact sy_top0 hD (by omega) (by omega) (h 0 (fun w => absurd w y))
theorem sy_cwN {post : Int32 → Prop} (hp : p < 80) (h : c p ≠ 15) (k : post 0) : wpY_callsWord post (yT, tr, ep, yD, yE, lv, yt, c, a, stk, em, ce, po, yc, ye) (nI p) := by
  refine ⟨vp_in_nI (n := p) hp (by decide), ?_⟩
  rw [nI_clamp (n := p) (by omega)]
  exact br_f h k
theorem sy_cwW {post : Int32 → Prop} {T q n : Nat} (h80 : T ≤ 80) (hp : p < T) (hq : q < T) (h : c p = 15) (ha : a p = nI n) (hd : sk_df c a q (nI n)) (hl : ∀ r, r < q → ¬ sk_df c a r (nI n)) (h26 : c q = 26) (k : post 1) : wpY_callsWord post (nI T, tr, ep, yD, yE, lv, yt, c, a, stk, em, ce, po, yc, ye) (nI p) := by
  refine ⟨vp_in_nI (n := p) (by omega) (by decide), ?_⟩
  rw [nI_clamp (n := p) (by omega), ha]
  refine br_t h ⟨vp_in_nI (n := p) (by omega) (by decide), sy_dfS h80 hq hd hl (br_f (nI_pos (by omega)) ⟨vp_in_nI (n := q) (by omega) (by decide), ?_⟩)⟩
  rw [nI_clamp (n := q) (by omega)]
  exact br_t h26 k
theorem sy_cwV {post : Int32 → Prop} {T q n : Nat} (h80 : T ≤ 80) (hp : p < T) (hq : q < T) (h : c p = 15) (ha : a p = nI n) (hd : sk_df c a q (nI n)) (hl : ∀ r, r < q → ¬ sk_df c a r (nI n)) (h26 : c q ≠ 26) (k : post 0) : wpY_callsWord post (nI T, tr, ep, yD, yE, lv, yt, c, a, stk, em, ce, po, yc, ye) (nI p) := by
  refine ⟨vp_in_nI (n := p) (by omega) (by decide), ?_⟩
  rw [nI_clamp (n := p) (by omega), ha]
  refine br_t h ⟨vp_in_nI (n := p) (by omega) (by decide), sy_dfS h80 hq hd hl (br_f (nI_pos (by omega)) ⟨vp_in_nI (n := q) (by omega) (by decide), ?_⟩)⟩
  rw [nI_clamp (n := q) (by omega)]
  exact br_f h26 k
end
