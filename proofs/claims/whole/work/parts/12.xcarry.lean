section
variable {xT tr ep ind vc pc xD xE cur tu ca : Int32} {c a nm nv ps pst psk jm cp stk em ce rp ct cm : Nat → Int32}
variable {D E p t l : Nat}
theorem sx_rs1 {post : Int32 → Prop} {x y : Int32} (h : post (x + y)) : wpX_resultOf post (xT, tr, ep, ind, vc, pc, xD, xE, cur, tu, ca, c, a, nm, nv, ps, pst, psk, jm, cp, stk, em, ce, rp, ct, cm) 1 x y := br_f (by decide) (br_f (by decide) (br_t rfl (h)))
theorem sx_rs2 {post : Int32 → Prop} {x y : Int32} (h : post (x - y)) : wpX_resultOf post (xT, tr, ep, ind, vc, pc, xD, xE, cur, tu, ca, c, a, nm, nv, ps, pst, psk, jm, cp, stk, em, ce, rp, ct, cm) 2 x y := br_f (by decide) (br_f (by decide) (br_f (by decide) (br_t rfl (h))))
theorem sx_rs3 {post : Int32 → Prop} {x y : Int32} (h : post (x * y)) : wpX_resultOf post (xT, tr, ep, ind, vc, pc, xD, xE, cur, tu, ca, c, a, nm, nv, ps, pst, psk, jm, cp, stk, em, ce, rp, ct, cm) 3 x y := br_f (by decide) (br_f (by decide) (br_f (by decide) (br_f (by decide) (br_t rfl (h)))))
theorem sx_rs4 {post : Int32 → Prop} {x y : Int32} (hy : ¬ y = 0) (h : post (x / y)) : wpX_resultOf post (xT, tr, ep, ind, vc, pc, xD, xE, cur, tu, ca, c, a, nm, nv, ps, pst, psk, jm, cp, stk, em, ce, rp, ct, cm) 4 x y := br_f (by decide) (br_f (by decide) (br_f (by decide) (br_f (by decide) (br_f (by decide) (br_t rfl ⟨hy, h⟩)))))
theorem sx_rs10 {post : Int32 → Prop} {x y : Int32} (h : post (if x = y then (1 : Int32) else 0)) : wpX_resultOf post (xT, tr, ep, ind, vc, pc, xD, xE, cur, tu, ca, c, a, nm, nv, ps, pst, psk, jm, cp, stk, em, ce, rp, ct, cm) 10 x y := by
  refine br_f (by decide) (br_f (by decide) (br_f (by decide) (br_f (by decide) (br_f (by decide) (br_f (by decide) (br_f (by decide) (br_f (by decide) (br_f (by decide) (br_f (by decide) (br_f (by decide) (br_t rfl (?_))))))))))))
  by_cases e : x = y
  · rw [if_pos e] at h; exact br_t e h
  · rw [if_neg e] at h; exact br_f e h
theorem sx_rs11 {post : Int32 → Prop} {x y : Int32} (h : post (if y ≤ x then (0 : Int32) else 1)) : wpX_resultOf post (xT, tr, ep, ind, vc, pc, xD, xE, cur, tu, ca, c, a, nm, nv, ps, pst, psk, jm, cp, stk, em, ce, rp, ct, cm) 11 x y := by
  refine br_f (by decide) (br_t (by decide) ?_)
  by_cases e : y ≤ x
  · rw [if_pos e] at h; exact br_t e h
  · rw [if_neg e] at h; exact br_f e h
theorem sx_re5 {post : SX → Prop} (hD : D + 2 ≤ 16) (h : post (xT, tr, ep, ind, vc, pc, nI (D + 2), xE, cur, tu, ca, c, a, nm, nv, ps, pst, psk, jm, cp, upd stk (D + 1) (stk D), em, ce, rp, ct, cm)) : wpX_rearrange post (xT, tr, ep, ind, vc, pc, nI (D + 1), xE, cur, tu, ca, c, a, nm, nv, ps, pst, psk, jm, cp, stk, em, ce, rp, ct, cm) 5 := by
  refine br_f (by decide) (br_f (by decide) (br_t rfl ?_))
  rw [nI_pred, nI_clamp (n := D) (by omega)]
  exact ⟨vp_in_nI (by omega) (by decide), sx_put (by omega) h⟩
theorem sx_re6 {post : SX → Prop} (h : post (xT, tr, ep, ind, vc, pc, nI D, xE, cur, tu, ca, c, a, nm, nv, ps, pst, psk, jm, cp, stk, em, ce, rp, ct, cm)) : wpX_rearrange post (xT, tr, ep, ind, vc, pc, nI (D + 1), xE, cur, tu, ca, c, a, nm, nv, ps, pst, psk, jm, cp, stk, em, ce, rp, ct, cm) 6 :=
  br_f (by decide) (br_f (by decide) (br_f (by decide) (br_t rfl (nm_r (nI_pred D) h))))
theorem sx_re7 {post : SX → Prop} (hD : D + 2 ≤ 16) (h : post (xT, tr, ep, ind, vc, pc, nI (D + 2), xE, cur, tu, ca, c, a, nm, nv, ps, pst, psk, jm, cp, upd (upd stk D (stk (D + 1))) (D + 1) (stk D), em, ce, rp, ct, cm)) : wpX_rearrange post (xT, tr, ep, ind, vc, pc, nI (D + 2), xE, cur, tu, ca, c, a, nm, nv, ps, pst, psk, jm, cp, stk, em, ce, rp, ct, cm) 7 := by
  refine br_f (by decide) (br_f (by decide) (br_f (by decide) (br_f (by decide) (br_t rfl ?_))))
  exact sx_up1 hD h
theorem sx_re8 {post : SX → Prop} (hD : D + 3 ≤ 16) (h : post (xT, tr, ep, ind, vc, pc, nI (D + 3), xE, cur, tu, ca, c, a, nm, nv, ps, pst, psk, jm, cp, upd stk (D + 2) (stk D), em, ce, rp, ct, cm)) : wpX_rearrange post (xT, tr, ep, ind, vc, pc, nI (D + 2), xE, cur, tu, ca, c, a, nm, nv, ps, pst, psk, jm, cp, stk, em, ce, rp, ct, cm) 8 := by
  refine br_f (by decide) (br_f (by decide) (br_f (by decide) (br_f (by decide) (br_f (by decide) (br_t rfl ?_)))))
  rw [show nI (D + 2) - 2 = nI D from pk_sub (a := D + 2) (b := 2) (by omega), nI_clamp (n := D) (by omega)]
  exact ⟨vp_in_nI (by omega) (by decide), sx_put (by omega) h⟩
theorem sx_re9 {post : SX → Prop} (hD : D + 3 ≤ 16) (h : post (xT, tr, ep, ind, vc, pc, nI (D + 3), xE, cur, tu, ca, c, a, nm, nv, ps, pst, psk, jm, cp, upd (upd (upd stk D (stk (D + 1))) (D + 1) (stk (D + 2))) (D + 2) (stk D), em, ce, rp, ct, cm)) : wpX_rearrange post (xT, tr, ep, ind, vc, pc, nI (D + 3), xE, cur, tu, ca, c, a, nm, nv, ps, pst, psk, jm, cp, stk, em, ce, rp, ct, cm) 9 := by
  refine br_f (by decide) (br_t (by decide) ?_)
  exact sx_up2 hD h
theorem sx_go18 {post : SX → Prop} (h : post (xT, tr, ep, ind, vc, pc, xD, xE, nI (p + 1), tu, ca, c, a, nm, nv, ps, pst, psk, jm, cp, stk, em, ce, rp, ct, cm)) : wpX_goOn post (xT, tr, ep, ind, vc, pc, xD, xE, nI p, tu, ca, c, a, nm, nv, ps, pst, psk, jm, cp, stk, em, ce, rp, ct, cm) 18 := by
  refine br_f (by decide) (br_f (by decide) (br_f (by decide) (br_f (by decide) (br_f (by decide) (br_t rfl (?_))))))
  exact nm_r (nI_1 p) h
theorem sx_go19 {post : SX → Prop} (h : post (xT, tr, ep, ind, vc, pc, xD, xE, nI (p + 1), tu, ca, c, a, nm, nv, ps, pst, psk, jm, cp, stk, em, ce, rp, ct, cm)) : wpX_goOn post (xT, tr, ep, ind, vc, pc, xD, xE, nI p, tu, ca, c, a, nm, nv, ps, pst, psk, jm, cp, stk, em, ce, rp, ct, cm) 19 := by
  refine br_f (by decide) (br_f (by decide) (br_f (by decide) (br_f (by decide) (br_f (by decide) (br_f (by decide) (br_t rfl (?_)))))))
  exact nm_r (nI_1 p) h
theorem sx_go17 {post : SX → Prop} {b : Int32} (hp : p < 80) (e : jm p = b) (h : post (xT, tr, ep, ind, vc, pc, xD, xE, b, tu, ca, c, a, nm, nv, ps, pst, psk, jm, cp, stk, em, ce, rp, ct, cm)) : wpX_goOn post (xT, tr, ep, ind, vc, pc, xD, xE, nI p, tu, ca, c, a, nm, nv, ps, pst, psk, jm, cp, stk, em, ce, rp, ct, cm) 17 := by
  refine br_f (by decide) (br_f (by decide) (br_f (by decide) (br_f (by decide) (br_t rfl (?_)))))
  rw [nI_clamp (n := p) (by omega), e]
  exact ⟨vp_in_nI (n := p) hp (by decide), nm_e h⟩
theorem sx_go16 {post : SX → Prop} (h : wX_goOn_84 post xT tr ep ind vc pc xD xE cur tu ca c a nm nv ps pst psk jm cp stk em ce rp ct cm) : wpX_goOn post (xT, tr, ep, ind, vc, pc, xD, xE, cur, tu, ca, c, a, nm, nv, ps, pst, psk, jm, cp, stk, em, ce, rp, ct, cm) 16 := by
  refine br_f (by decide) (br_f (by decide) (br_f (by decide) (br_t rfl (?_))))
  exact h
theorem sx_go21 {post : SX → Prop} (h : wX_goOn_84 post xT tr ep ind vc pc xD xE cur tu ca c a nm nv ps pst psk jm cp stk em ce rp ct cm) : wpX_goOn post (xT, tr, ep, ind, vc, pc, xD, xE, cur, tu, ca, c, a, nm, nv, ps, pst, psk, jm, cp, stk, em, ce, rp, ct, cm) 21 := by
  refine br_f (by decide) (br_f (by decide) (br_f (by decide) (br_f (by decide) (br_f (by decide) (br_f (by decide) (br_f (by decide) (br_f (by decide) (br_t rfl (?_)))))))))
  exact h
theorem sx_go20 {post : SX → Prop} (h : wpX_endUntil post (xT, tr, ep, ind, vc, pc, xD, xE, cur, tu, ca, c, a, nm, nv, ps, pst, psk, jm, cp, stk, em, ce, rp, ct, cm)) : wpX_goOn post (xT, tr, ep, ind, vc, pc, xD, xE, cur, tu, ca, c, a, nm, nv, ps, pst, psk, jm, cp, stk, em, ce, rp, ct, cm) 20 := by
  refine br_f (by decide) (br_f (by decide) (br_f (by decide) (br_f (by decide) (br_f (by decide) (br_f (by decide) (br_f (by decide) (br_t rfl (?_))))))))
  exact h
theorem sx_go22 {post : SX → Prop} (h : wpX_turnBack post (xT, tr, ep, ind, vc, pc, xD, xE, cur, tu, ca, c, a, nm, nv, ps, pst, psk, jm, cp, stk, em, ce, rp, ct, cm)) : wpX_goOn post (xT, tr, ep, ind, vc, pc, xD, xE, cur, tu, ca, c, a, nm, nv, ps, pst, psk, jm, cp, stk, em, ce, rp, ct, cm) 22 := by
  refine br_f (by decide) (br_f (by decide) (br_f (by decide) (br_f (by decide) (br_f (by decide) (br_f (by decide) (br_f (by decide) (br_f (by decide) (br_f (by decide) (br_t rfl (?_))))))))))
  exact h
theorem sx_go23 {post : SX → Prop} (h : wpX_startCount post (xT, tr, ep, ind, vc, pc, xD, xE, cur, tu, ca, c, a, nm, nv, ps, pst, psk, jm, cp, stk, em, ce, rp, ct, cm)) : wpX_goOn post (xT, tr, ep, ind, vc, pc, xD, xE, cur, tu, ca, c, a, nm, nv, ps, pst, psk, jm, cp, stk, em, ce, rp, ct, cm) 23 := by
  refine br_f (by decide) (br_f (by decide) (br_f (by decide) (br_f (by decide) (br_f (by decide) (br_f (by decide) (br_f (by decide) (br_f (by decide) (br_f (by decide) (br_f (by decide) (br_t rfl (?_)))))))))))
  exact h
theorem sx_go24 {post : SX → Prop} (h : wpX_advanceCount post (xT, tr, ep, ind, vc, pc, xD, xE, cur, tu, ca, c, a, nm, nv, ps, pst, psk, jm, cp, stk, em, ce, rp, ct, cm)) : wpX_goOn post (xT, tr, ep, ind, vc, pc, xD, xE, cur, tu, ca, c, a, nm, nv, ps, pst, psk, jm, cp, stk, em, ce, rp, ct, cm) 24 := by
  refine br_f (by decide) (br_f (by decide) (br_f (by decide) (br_f (by decide) (br_f (by decide) (br_f (by decide) (br_f (by decide) (br_f (by decide) (br_f (by decide) (br_f (by decide) (br_f (by decide) (br_t rfl (?_))))))))))))
  exact h
theorem sx_go25 {post : SX → Prop} (h : wpX_putCount post (xT, tr, ep, ind, vc, pc, xD, xE, cur, tu, ca, c, a, nm, nv, ps, pst, psk, jm, cp, stk, em, ce, rp, ct, cm)) : wpX_goOn post (xT, tr, ep, ind, vc, pc, xD, xE, cur, tu, ca, c, a, nm, nv, ps, pst, psk, jm, cp, stk, em, ce, rp, ct, cm) 25 := by
  refine br_f (by decide) (br_f (by decide) (br_f (by decide) (br_f (by decide) (br_f (by decide) (br_f (by decide) (br_f (by decide) (br_f (by decide) (br_f (by decide) (br_f (by decide) (br_f (by decide) (br_f (by decide) (br_t rfl (?_)))))))))))))
  exact h
theorem sx_go27 {post : SX → Prop} (h : wpX_endCall post (xT, tr, ep, ind, vc, pc, xD, xE, cur, tu, ca, c, a, nm, nv, ps, pst, psk, jm, cp, stk, em, ce, rp, ct, cm)) : wpX_goOn post (xT, tr, ep, ind, vc, pc, xD, xE, cur, tu, ca, c, a, nm, nv, ps, pst, psk, jm, cp, stk, em, ce, rp, ct, cm) 27 := by
  refine br_f (by decide) (br_f (by decide) (br_f (by decide) (br_f (by decide) (br_f (by decide) (br_f (by decide) (br_f (by decide) (br_f (by decide) (br_f (by decide) (br_f (by decide) (br_f (by decide) (br_f (by decide) (br_f (by decide) (br_f (by decide) (br_t rfl (?_)))))))))))))))
  exact h
theorem sx_go15 {post : SX → Prop} (hp : p < 80) (h : wpX_useName post (xT, tr, ep, ind, vc, pc, xD, xE, nI p, tu, ca, c, a, nm, nv, ps, pst, psk, jm, cp, stk, em, ce, rp, ct, cm) (a p)) : wpX_goOn post (xT, tr, ep, ind, vc, pc, xD, xE, nI p, tu, ca, c, a, nm, nv, ps, pst, psk, jm, cp, stk, em, ce, rp, ct, cm) 15 := by
  refine br_f (by decide) (br_f (by decide) (br_t rfl (?_)))
  rw [nI_clamp (n := p) (by omega)]
  exact ⟨vp_in_nI (n := p) hp (by decide), h⟩
theorem xc_0 {post : SX → Prop} (hp : p < 80) (hc : c p = 0) (hD : D < 16) (h : post (xT, tr, ep, ind, vc, pc, nI (D + 1), nI E, nI (p + 1), nI t, nI (l + 1), c, a, nm, nv, ps, pst, psk, jm, cp, upd stk D (a p), em, ce, rp, ct, cm)) : wpX_carryOut post (xT, tr, ep, ind, vc, pc, nI (D), nI E, nI p, nI t, nI (l + 1), c, a, nm, nv, ps, pst, psk, jm, cp, stk, em, ce, rp, ct, cm) := by
  refine ⟨vp_in_nI (n := p) hp (by decide), ?_⟩
  rw [nI_clamp (n := p) (by omega), hc]
  refine nm_e ?_
  refine br_f (by decide) (br_f (by decide) (br_t rfl (?_)))
  refine ⟨vp_in_nI (n := p) hp (by decide), ?_⟩
  refine sx_put hD ?_
  exact nm_r (nI_1 p) h
theorem xh_1 {post : SX → Prop} (hp : p < 80) (hc : c p = 1) (h : wX_carryOut_110 post 1 xT tr ep ind vc pc xD xE (nI p) tu ca c a nm nv ps pst psk jm cp stk em ce rp ct cm) : wpX_carryOut post (xT, tr, ep, ind, vc, pc, xD, xE, nI p, tu, ca, c, a, nm, nv, ps, pst, psk, jm, cp, stk, em, ce, rp, ct, cm) := by
  refine ⟨vp_in_nI (n := p) hp (by decide), ?_⟩
  rw [nI_clamp (n := p) (by omega), hc]
  refine nm_e ?_
  refine br_f (by decide) (br_f (by decide) (br_f (by decide) (br_t rfl (?_))))
  exact h
theorem xh_2 {post : SX → Prop} (hp : p < 80) (hc : c p = 2) (h : wX_carryOut_110 post 2 xT tr ep ind vc pc xD xE (nI p) tu ca c a nm nv ps pst psk jm cp stk em ce rp ct cm) : wpX_carryOut post (xT, tr, ep, ind, vc, pc, xD, xE, nI p, tu, ca, c, a, nm, nv, ps, pst, psk, jm, cp, stk, em, ce, rp, ct, cm) := by
  refine ⟨vp_in_nI (n := p) hp (by decide), ?_⟩
  rw [nI_clamp (n := p) (by omega), hc]
  refine nm_e ?_
  refine br_f (by decide) (br_f (by decide) (br_f (by decide) (br_f (by decide) (br_t rfl (?_)))))
  exact h
theorem xh_3 {post : SX → Prop} (hp : p < 80) (hc : c p = 3) (h : wX_carryOut_110 post 3 xT tr ep ind vc pc xD xE (nI p) tu ca c a nm nv ps pst psk jm cp stk em ce rp ct cm) : wpX_carryOut post (xT, tr, ep, ind, vc, pc, xD, xE, nI p, tu, ca, c, a, nm, nv, ps, pst, psk, jm, cp, stk, em, ce, rp, ct, cm) := by
  refine ⟨vp_in_nI (n := p) hp (by decide), ?_⟩
  rw [nI_clamp (n := p) (by omega), hc]
  refine nm_e ?_
  refine br_f (by decide) (br_f (by decide) (br_f (by decide) (br_f (by decide) (br_f (by decide) (br_t rfl (?_))))))
  exact h
theorem xh_4 {post : SX → Prop} (hp : p < 80) (hc : c p = 4) (h : wX_carryOut_110 post 4 xT tr ep ind vc pc xD xE (nI p) tu ca c a nm nv ps pst psk jm cp stk em ce rp ct cm) : wpX_carryOut post (xT, tr, ep, ind, vc, pc, xD, xE, nI p, tu, ca, c, a, nm, nv, ps, pst, psk, jm, cp, stk, em, ce, rp, ct, cm) := by
  refine ⟨vp_in_nI (n := p) hp (by decide), ?_⟩
  rw [nI_clamp (n := p) (by omega), hc]
  refine nm_e ?_
  refine br_f (by decide) (br_f (by decide) (br_f (by decide) (br_f (by decide) (br_f (by decide) (br_f (by decide) (br_t rfl (?_)))))))
  exact h
theorem xh_5 {post : SX → Prop} (hp : p < 80) (hc : c p = 5) (h : wX_carryOut_128 post 5 xT tr ep ind vc pc xD xE (nI p) tu ca c a nm nv ps pst psk jm cp stk em ce rp ct cm) : wpX_carryOut post (xT, tr, ep, ind, vc, pc, xD, xE, nI p, tu, ca, c, a, nm, nv, ps, pst, psk, jm, cp, stk, em, ce, rp, ct, cm) := by
  refine ⟨vp_in_nI (n := p) hp (by decide), ?_⟩
  rw [nI_clamp (n := p) (by omega), hc]
  refine nm_e ?_
  refine br_f (by decide) (br_f (by decide) (br_f (by decide) (br_f (by decide) (br_f (by decide) (br_f (by decide) (br_f (by decide) (br_t rfl (?_))))))))
  exact h
theorem xh_6 {post : SX → Prop} (hp : p < 80) (hc : c p = 6) (h : wX_carryOut_128 post 6 xT tr ep ind vc pc xD xE (nI p) tu ca c a nm nv ps pst psk jm cp stk em ce rp ct cm) : wpX_carryOut post (xT, tr, ep, ind, vc, pc, xD, xE, nI p, tu, ca, c, a, nm, nv, ps, pst, psk, jm, cp, stk, em, ce, rp, ct, cm) := by
  refine ⟨vp_in_nI (n := p) hp (by decide), ?_⟩
  rw [nI_clamp (n := p) (by omega), hc]
  refine nm_e ?_
  refine br_f (by decide) (br_f (by decide) (br_f (by decide) (br_f (by decide) (br_f (by decide) (br_f (by decide) (br_f (by decide) (br_f (by decide) (br_t rfl (?_)))))))))
  exact h
theorem xh_7 {post : SX → Prop} (hp : p < 80) (hc : c p = 7) (h : wX_carryOut_128 post 7 xT tr ep ind vc pc xD xE (nI p) tu ca c a nm nv ps pst psk jm cp stk em ce rp ct cm) : wpX_carryOut post (xT, tr, ep, ind, vc, pc, xD, xE, nI p, tu, ca, c, a, nm, nv, ps, pst, psk, jm, cp, stk, em, ce, rp, ct, cm) := by
  refine ⟨vp_in_nI (n := p) hp (by decide), ?_⟩
  rw [nI_clamp (n := p) (by omega), hc]
  refine nm_e ?_
  refine br_f (by decide) (br_f (by decide) (br_f (by decide) (br_f (by decide) (br_f (by decide) (br_f (by decide) (br_f (by decide) (br_f (by decide) (br_f (by decide) (br_t rfl (?_))))))))))
  exact h
theorem xh_8 {post : SX → Prop} (hp : p < 80) (hc : c p = 8) (h : wX_carryOut_128 post 8 xT tr ep ind vc pc xD xE (nI p) tu ca c a nm nv ps pst psk jm cp stk em ce rp ct cm) : wpX_carryOut post (xT, tr, ep, ind, vc, pc, xD, xE, nI p, tu, ca, c, a, nm, nv, ps, pst, psk, jm, cp, stk, em, ce, rp, ct, cm) := by
  refine ⟨vp_in_nI (n := p) hp (by decide), ?_⟩
  rw [nI_clamp (n := p) (by omega), hc]
  refine nm_e ?_
  refine br_f (by decide) (br_f (by decide) (br_f (by decide) (br_f (by decide) (br_f (by decide) (br_f (by decide) (br_f (by decide) (br_f (by decide) (br_f (by decide) (br_f (by decide) (br_t rfl (?_)))))))))))
  exact h
theorem xh_9 {post : SX → Prop} (hp : p < 80) (hc : c p = 9) (h : wX_carryOut_128 post 9 xT tr ep ind vc pc xD xE (nI p) tu ca c a nm nv ps pst psk jm cp stk em ce rp ct cm) : wpX_carryOut post (xT, tr, ep, ind, vc, pc, xD, xE, nI p, tu, ca, c, a, nm, nv, ps, pst, psk, jm, cp, stk, em, ce, rp, ct, cm) := by
  refine ⟨vp_in_nI (n := p) hp (by decide), ?_⟩
  rw [nI_clamp (n := p) (by omega), hc]
  refine nm_e ?_
  refine br_f (by decide) (br_f (by decide) (br_f (by decide) (br_f (by decide) (br_f (by decide) (br_f (by decide) (br_f (by decide) (br_f (by decide) (br_f (by decide) (br_f (by decide) (br_f (by decide) (br_t rfl (?_))))))))))))
  exact h
theorem xh_10 {post : SX → Prop} (hp : p < 80) (hc : c p = 10) (h : wX_carryOut_110 post 10 xT tr ep ind vc pc xD xE (nI p) tu ca c a nm nv ps pst psk jm cp stk em ce rp ct cm) : wpX_carryOut post (xT, tr, ep, ind, vc, pc, xD, xE, nI p, tu, ca, c, a, nm, nv, ps, pst, psk, jm, cp, stk, em, ce, rp, ct, cm) := by
  refine ⟨vp_in_nI (n := p) hp (by decide), ?_⟩
  rw [nI_clamp (n := p) (by omega), hc]
  refine nm_e ?_
  refine br_f (by decide) (br_f (by decide) (br_f (by decide) (br_f (by decide) (br_f (by decide) (br_f (by decide) (br_f (by decide) (br_f (by decide) (br_f (by decide) (br_f (by decide) (br_f (by decide) (br_f (by decide) (br_t rfl (?_)))))))))))))
  exact h
theorem xh_11 {post : SX → Prop} (hp : p < 80) (hc : c p = 11) (h : wX_carryOut_110 post 11 xT tr ep ind vc pc xD xE (nI p) tu ca c a nm nv ps pst psk jm cp stk em ce rp ct cm) : wpX_carryOut post (xT, tr, ep, ind, vc, pc, xD, xE, nI p, tu, ca, c, a, nm, nv, ps, pst, psk, jm, cp, stk, em, ce, rp, ct, cm) := by
  refine ⟨vp_in_nI (n := p) hp (by decide), ?_⟩
  rw [nI_clamp (n := p) (by omega), hc]
  refine nm_e ?_
  refine br_f (by decide) (br_f (by decide) (br_f (by decide) (br_f (by decide) (br_f (by decide) (br_f (by decide) (br_f (by decide) (br_f (by decide) (br_f (by decide) (br_f (by decide) (br_f (by decide) (br_f (by decide) (br_f (by decide) (br_t rfl (?_))))))))))))))
  exact h
theorem xh_12 {post : SX → Prop} (hp : p < 80) (hc : c p = 12) (h : wX_carryOut_146 post 12 xT tr ep ind vc pc xD xE (nI p) tu ca c a nm nv ps pst psk jm cp stk em ce rp ct cm) : wpX_carryOut post (xT, tr, ep, ind, vc, pc, xD, xE, nI p, tu, ca, c, a, nm, nv, ps, pst, psk, jm, cp, stk, em, ce, rp, ct, cm) := by
  refine ⟨vp_in_nI (n := p) hp (by decide), ?_⟩
  rw [nI_clamp (n := p) (by omega), hc]
  refine nm_e ?_
  refine br_f (by decide) (br_f (by decide) (br_f (by decide) (br_f (by decide) (br_f (by decide) (br_f (by decide) (br_f (by decide) (br_f (by decide) (br_f (by decide) (br_f (by decide) (br_f (by decide) (br_f (by decide) (br_f (by decide) (br_f (by decide) (br_t rfl (?_)))))))))))))))
  exact h
theorem xh_13 {post : SX → Prop} (hp : p < 80) (hc : c p = 13) (h : wX_carryOut_146 post 13 xT tr ep ind vc pc xD xE (nI p) tu ca c a nm nv ps pst psk jm cp stk em ce rp ct cm) : wpX_carryOut post (xT, tr, ep, ind, vc, pc, xD, xE, nI p, tu, ca, c, a, nm, nv, ps, pst, psk, jm, cp, stk, em, ce, rp, ct, cm) := by
  refine ⟨vp_in_nI (n := p) hp (by decide), ?_⟩
  rw [nI_clamp (n := p) (by omega), hc]
  refine nm_e ?_
  refine br_f (by decide) (br_f (by decide) (br_f (by decide) (br_f (by decide) (br_f (by decide) (br_f (by decide) (br_f (by decide) (br_f (by decide) (br_f (by decide) (br_f (by decide) (br_f (by decide) (br_f (by decide) (br_f (by decide) (br_f (by decide) (br_f (by decide) (br_t rfl (?_))))))))))))))))
  exact h
theorem xh_14 {post : SX → Prop} (hp : p < 80) (hc : c p = 14) (h : wX_carryOut_146 post 14 xT tr ep ind vc pc xD xE (nI p) tu ca c a nm nv ps pst psk jm cp stk em ce rp ct cm) : wpX_carryOut post (xT, tr, ep, ind, vc, pc, xD, xE, nI p, tu, ca, c, a, nm, nv, ps, pst, psk, jm, cp, stk, em, ce, rp, ct, cm) := by
  refine ⟨vp_in_nI (n := p) hp (by decide), ?_⟩
  rw [nI_clamp (n := p) (by omega), hc]
  refine nm_e ?_
  refine br_f (by decide) (br_f (by decide) (br_f (by decide) (br_f (by decide) (br_f (by decide) (br_f (by decide) (br_f (by decide) (br_f (by decide) (br_f (by decide) (br_f (by decide) (br_f (by decide) (br_f (by decide) (br_f (by decide) (br_f (by decide) (br_f (by decide) (br_f (by decide) (br_t rfl (?_)))))))))))))))))
  exact h
theorem xh_15 {post : SX → Prop} (hp : p < 80) (hc : c p = 15) (h : wpX_goOn post (xT, tr, ep, ind, vc, pc, xD, xE, nI p, tu, ca, c, a, nm, nv, ps, pst, psk, jm, cp, stk, em, ce, rp, ct, cm) 15) : wpX_carryOut post (xT, tr, ep, ind, vc, pc, xD, xE, nI p, tu, ca, c, a, nm, nv, ps, pst, psk, jm, cp, stk, em, ce, rp, ct, cm) := by
  refine ⟨vp_in_nI (n := p) hp (by decide), ?_⟩
  rw [nI_clamp (n := p) (by omega), hc]
  refine nm_e ?_
  refine br_f (by decide) (br_t (by decide) ?_)
  exact h
theorem xh_16 {post : SX → Prop} (hp : p < 80) (hc : c p = 16) (h : wpX_goOn post (xT, tr, ep, ind, vc, pc, xD, xE, nI p, tu, ca, c, a, nm, nv, ps, pst, psk, jm, cp, stk, em, ce, rp, ct, cm) 16) : wpX_carryOut post (xT, tr, ep, ind, vc, pc, xD, xE, nI p, tu, ca, c, a, nm, nv, ps, pst, psk, jm, cp, stk, em, ce, rp, ct, cm) := by
  refine ⟨vp_in_nI (n := p) hp (by decide), ?_⟩
  rw [nI_clamp (n := p) (by omega), hc]
  refine nm_e ?_
  refine br_f (by decide) (br_t (by decide) ?_)
  exact h
theorem xh_17 {post : SX → Prop} (hp : p < 80) (hc : c p = 17) (h : wpX_goOn post (xT, tr, ep, ind, vc, pc, xD, xE, nI p, tu, ca, c, a, nm, nv, ps, pst, psk, jm, cp, stk, em, ce, rp, ct, cm) 17) : wpX_carryOut post (xT, tr, ep, ind, vc, pc, xD, xE, nI p, tu, ca, c, a, nm, nv, ps, pst, psk, jm, cp, stk, em, ce, rp, ct, cm) := by
  refine ⟨vp_in_nI (n := p) hp (by decide), ?_⟩
  rw [nI_clamp (n := p) (by omega), hc]
  refine nm_e ?_
  refine br_f (by decide) (br_t (by decide) ?_)
  exact h
theorem xh_18 {post : SX → Prop} (hp : p < 80) (hc : c p = 18) (h : wpX_goOn post (xT, tr, ep, ind, vc, pc, xD, xE, nI p, tu, ca, c, a, nm, nv, ps, pst, psk, jm, cp, stk, em, ce, rp, ct, cm) 18) : wpX_carryOut post (xT, tr, ep, ind, vc, pc, xD, xE, nI p, tu, ca, c, a, nm, nv, ps, pst, psk, jm, cp, stk, em, ce, rp, ct, cm) := by
  refine ⟨vp_in_nI (n := p) hp (by decide), ?_⟩
  rw [nI_clamp (n := p) (by omega), hc]
  refine nm_e ?_
  refine br_f (by decide) (br_t (by decide) ?_)
  exact h
theorem xh_19 {post : SX → Prop} (hp : p < 80) (hc : c p = 19) (h : wpX_goOn post (xT, tr, ep, ind, vc, pc, xD, xE, nI p, tu, ca, c, a, nm, nv, ps, pst, psk, jm, cp, stk, em, ce, rp, ct, cm) 19) : wpX_carryOut post (xT, tr, ep, ind, vc, pc, xD, xE, nI p, tu, ca, c, a, nm, nv, ps, pst, psk, jm, cp, stk, em, ce, rp, ct, cm) := by
  refine ⟨vp_in_nI (n := p) hp (by decide), ?_⟩
  rw [nI_clamp (n := p) (by omega), hc]
  refine nm_e ?_
  refine br_f (by decide) (br_t (by decide) ?_)
  exact h
theorem xh_20 {post : SX → Prop} (hp : p < 80) (hc : c p = 20) (h : wpX_goOn post (xT, tr, ep, ind, vc, pc, xD, xE, nI p, tu, ca, c, a, nm, nv, ps, pst, psk, jm, cp, stk, em, ce, rp, ct, cm) 20) : wpX_carryOut post (xT, tr, ep, ind, vc, pc, xD, xE, nI p, tu, ca, c, a, nm, nv, ps, pst, psk, jm, cp, stk, em, ce, rp, ct, cm) := by
  refine ⟨vp_in_nI (n := p) hp (by decide), ?_⟩
  rw [nI_clamp (n := p) (by omega), hc]
  refine nm_e ?_
  refine br_f (by decide) (br_t (by decide) ?_)
  exact h
theorem xh_21 {post : SX → Prop} (hp : p < 80) (hc : c p = 21) (h : wpX_goOn post (xT, tr, ep, ind, vc, pc, xD, xE, nI p, tu, ca, c, a, nm, nv, ps, pst, psk, jm, cp, stk, em, ce, rp, ct, cm) 21) : wpX_carryOut post (xT, tr, ep, ind, vc, pc, xD, xE, nI p, tu, ca, c, a, nm, nv, ps, pst, psk, jm, cp, stk, em, ce, rp, ct, cm) := by
  refine ⟨vp_in_nI (n := p) hp (by decide), ?_⟩
  rw [nI_clamp (n := p) (by omega), hc]
  refine nm_e ?_
  refine br_f (by decide) (br_t (by decide) ?_)
  exact h
theorem xh_22 {post : SX → Prop} (hp : p < 80) (hc : c p = 22) (h : wpX_goOn post (xT, tr, ep, ind, vc, pc, xD, xE, nI p, tu, ca, c, a, nm, nv, ps, pst, psk, jm, cp, stk, em, ce, rp, ct, cm) 22) : wpX_carryOut post (xT, tr, ep, ind, vc, pc, xD, xE, nI p, tu, ca, c, a, nm, nv, ps, pst, psk, jm, cp, stk, em, ce, rp, ct, cm) := by
  refine ⟨vp_in_nI (n := p) hp (by decide), ?_⟩
  rw [nI_clamp (n := p) (by omega), hc]
  refine nm_e ?_
  refine br_f (by decide) (br_t (by decide) ?_)
  exact h
theorem xh_23 {post : SX → Prop} (hp : p < 80) (hc : c p = 23) (h : wpX_goOn post (xT, tr, ep, ind, vc, pc, xD, xE, nI p, tu, ca, c, a, nm, nv, ps, pst, psk, jm, cp, stk, em, ce, rp, ct, cm) 23) : wpX_carryOut post (xT, tr, ep, ind, vc, pc, xD, xE, nI p, tu, ca, c, a, nm, nv, ps, pst, psk, jm, cp, stk, em, ce, rp, ct, cm) := by
  refine ⟨vp_in_nI (n := p) hp (by decide), ?_⟩
  rw [nI_clamp (n := p) (by omega), hc]
  refine nm_e ?_
  refine br_f (by decide) (br_t (by decide) ?_)
  exact h
theorem xh_24 {post : SX → Prop} (hp : p < 80) (hc : c p = 24) (h : wpX_goOn post (xT, tr, ep, ind, vc, pc, xD, xE, nI p, tu, ca, c, a, nm, nv, ps, pst, psk, jm, cp, stk, em, ce, rp, ct, cm) 24) : wpX_carryOut post (xT, tr, ep, ind, vc, pc, xD, xE, nI p, tu, ca, c, a, nm, nv, ps, pst, psk, jm, cp, stk, em, ce, rp, ct, cm) := by
  refine ⟨vp_in_nI (n := p) hp (by decide), ?_⟩
  rw [nI_clamp (n := p) (by omega), hc]
  refine nm_e ?_
  refine br_f (by decide) (br_t (by decide) ?_)
  exact h
theorem xh_25 {post : SX → Prop} (hp : p < 80) (hc : c p = 25) (h : wpX_goOn post (xT, tr, ep, ind, vc, pc, xD, xE, nI p, tu, ca, c, a, nm, nv, ps, pst, psk, jm, cp, stk, em, ce, rp, ct, cm) 25) : wpX_carryOut post (xT, tr, ep, ind, vc, pc, xD, xE, nI p, tu, ca, c, a, nm, nv, ps, pst, psk, jm, cp, stk, em, ce, rp, ct, cm) := by
  refine ⟨vp_in_nI (n := p) hp (by decide), ?_⟩
  rw [nI_clamp (n := p) (by omega), hc]
  refine nm_e ?_
  refine br_f (by decide) (br_t (by decide) ?_)
  exact h
theorem xh_27 {post : SX → Prop} (hp : p < 80) (hc : c p = 27) (h : wpX_goOn post (xT, tr, ep, ind, vc, pc, xD, xE, nI p, tu, ca, c, a, nm, nv, ps, pst, psk, jm, cp, stk, em, ce, rp, ct, cm) 27) : wpX_carryOut post (xT, tr, ep, ind, vc, pc, xD, xE, nI p, tu, ca, c, a, nm, nv, ps, pst, psk, jm, cp, stk, em, ce, rp, ct, cm) := by
  refine ⟨vp_in_nI (n := p) hp (by decide), ?_⟩
  rw [nI_clamp (n := p) (by omega), hc]
  refine nm_e ?_
  refine br_f (by decide) (br_t (by decide) ?_)
  exact h
theorem xc_1 {post : SX → Prop} (hp : p < 80) (hc : c p = 1) (hD : D + 2 ≤ 16) (h : post (xT, tr, ep, ind, vc, pc, nI (D + 1), nI E, nI (p + 1), nI t, nI (l + 1), c, a, nm, nv, ps, pst, psk, jm, cp, upd stk D (stk D + stk (D + 1)), em, ce, rp, ct, cm)) : wpX_carryOut post (xT, tr, ep, ind, vc, pc, nI (D + 2), nI E, nI p, nI t, nI (l + 1), c, a, nm, nv, ps, pst, psk, jm, cp, stk, em, ce, rp, ct, cm) := by
  refine xh_1 hp hc ?_
  unfold wX_carryOut_110
  refine sx_calc (x := 1) hD (fun _ h => sx_rs1 h) ?_
  exact nm_r (nI_1 p) h
theorem xc_2 {post : SX → Prop} (hp : p < 80) (hc : c p = 2) (hD : D + 2 ≤ 16) (h : post (xT, tr, ep, ind, vc, pc, nI (D + 1), nI E, nI (p + 1), nI t, nI (l + 1), c, a, nm, nv, ps, pst, psk, jm, cp, upd stk D (stk D - stk (D + 1)), em, ce, rp, ct, cm)) : wpX_carryOut post (xT, tr, ep, ind, vc, pc, nI (D + 2), nI E, nI p, nI t, nI (l + 1), c, a, nm, nv, ps, pst, psk, jm, cp, stk, em, ce, rp, ct, cm) := by
  refine xh_2 hp hc ?_
  unfold wX_carryOut_110
  refine sx_calc (x := 2) hD (fun _ h => sx_rs2 h) ?_
  exact nm_r (nI_1 p) h
theorem xc_3 {post : SX → Prop} (hp : p < 80) (hc : c p = 3) (hD : D + 2 ≤ 16) (h : post (xT, tr, ep, ind, vc, pc, nI (D + 1), nI E, nI (p + 1), nI t, nI (l + 1), c, a, nm, nv, ps, pst, psk, jm, cp, upd stk D (stk D * stk (D + 1)), em, ce, rp, ct, cm)) : wpX_carryOut post (xT, tr, ep, ind, vc, pc, nI (D + 2), nI E, nI p, nI t, nI (l + 1), c, a, nm, nv, ps, pst, psk, jm, cp, stk, em, ce, rp, ct, cm) := by
  refine xh_3 hp hc ?_
  unfold wX_carryOut_110
  refine sx_calc (x := 3) hD (fun _ h => sx_rs3 h) ?_
  exact nm_r (nI_1 p) h
theorem xc_4 {post : SX → Prop} (hp : p < 80) (hc : c p = 4) (hD : D + 2 ≤ 16) (hy : ¬ stk (D + 1) = 0) (h : post (xT, tr, ep, ind, vc, pc, nI (D + 1), nI E, nI (p + 1), nI t, nI (l + 1), c, a, nm, nv, ps, pst, psk, jm, cp, upd stk D (stk D / stk (D + 1)), em, ce, rp, ct, cm)) : wpX_carryOut post (xT, tr, ep, ind, vc, pc, nI (D + 2), nI E, nI p, nI t, nI (l + 1), c, a, nm, nv, ps, pst, psk, jm, cp, stk, em, ce, rp, ct, cm) := by
  refine xh_4 hp hc ?_
  unfold wX_carryOut_110
  refine sx_calc (x := 4) hD (fun _ h => sx_rs4 hy h) ?_
  exact nm_r (nI_1 p) h
theorem xc_10 {post : SX → Prop} (hp : p < 80) (hc : c p = 10) (hD : D + 2 ≤ 16) (h : post (xT, tr, ep, ind, vc, pc, nI (D + 1), nI E, nI (p + 1), nI t, nI (l + 1), c, a, nm, nv, ps, pst, psk, jm, cp, upd stk D ((if stk D = stk (D + 1) then (1 : Int32) else 0)), em, ce, rp, ct, cm)) : wpX_carryOut post (xT, tr, ep, ind, vc, pc, nI (D + 2), nI E, nI p, nI t, nI (l + 1), c, a, nm, nv, ps, pst, psk, jm, cp, stk, em, ce, rp, ct, cm) := by
  refine xh_10 hp hc ?_
  unfold wX_carryOut_110
  refine sx_calc (x := 10) hD (fun _ h => sx_rs10 h) ?_
  exact nm_r (nI_1 p) h
theorem xc_11 {post : SX → Prop} (hp : p < 80) (hc : c p = 11) (hD : D + 2 ≤ 16) (h : post (xT, tr, ep, ind, vc, pc, nI (D + 1), nI E, nI (p + 1), nI t, nI (l + 1), c, a, nm, nv, ps, pst, psk, jm, cp, upd stk D ((if stk (D + 1) ≤ stk D then (0 : Int32) else 1)), em, ce, rp, ct, cm)) : wpX_carryOut post (xT, tr, ep, ind, vc, pc, nI (D + 2), nI E, nI p, nI t, nI (l + 1), c, a, nm, nv, ps, pst, psk, jm, cp, stk, em, ce, rp, ct, cm) := by
  refine xh_11 hp hc ?_
  unfold wX_carryOut_110
  refine sx_calc (x := 11) hD (fun _ h => sx_rs11 h) ?_
  exact nm_r (nI_1 p) h
theorem xc_5 {post : SX → Prop} (hp : p < 80) (hc : c p = 5) (hD : D + 2 ≤ 16) (h : post (xT, tr, ep, ind, vc, pc, nI (D + 2), nI E, nI (p + 1), nI t, nI (l + 1), c, a, nm, nv, ps, pst, psk, jm, cp, upd stk (D + 1) (stk D), em, ce, rp, ct, cm)) : wpX_carryOut post (xT, tr, ep, ind, vc, pc, nI (D + 1), nI E, nI p, nI t, nI (l + 1), c, a, nm, nv, ps, pst, psk, jm, cp, stk, em, ce, rp, ct, cm) := by
  refine xh_5 hp hc ?_
  unfold wX_carryOut_128
  refine sx_re5 hD ?_
  exact nm_r (nI_1 p) h
theorem xc_6 {post : SX → Prop} (hp : p < 80) (hc : c p = 6)  (h : post (xT, tr, ep, ind, vc, pc, nI (D), nI E, nI (p + 1), nI t, nI (l + 1), c, a, nm, nv, ps, pst, psk, jm, cp, stk, em, ce, rp, ct, cm)) : wpX_carryOut post (xT, tr, ep, ind, vc, pc, nI (D + 1), nI E, nI p, nI t, nI (l + 1), c, a, nm, nv, ps, pst, psk, jm, cp, stk, em, ce, rp, ct, cm) := by
  refine xh_6 hp hc ?_
  unfold wX_carryOut_128
  refine sx_re6 ?_
  exact nm_r (nI_1 p) h
theorem xc_7 {post : SX → Prop} (hp : p < 80) (hc : c p = 7) (hD : D + 2 ≤ 16) (h : post (xT, tr, ep, ind, vc, pc, nI (D + 2), nI E, nI (p + 1), nI t, nI (l + 1), c, a, nm, nv, ps, pst, psk, jm, cp, upd (upd stk D (stk (D + 1))) (D + 1) (stk D), em, ce, rp, ct, cm)) : wpX_carryOut post (xT, tr, ep, ind, vc, pc, nI (D + 2), nI E, nI p, nI t, nI (l + 1), c, a, nm, nv, ps, pst, psk, jm, cp, stk, em, ce, rp, ct, cm) := by
  refine xh_7 hp hc ?_
  unfold wX_carryOut_128
  refine sx_re7 hD ?_
  exact nm_r (nI_1 p) h
theorem xc_8 {post : SX → Prop} (hp : p < 80) (hc : c p = 8) (hD : D + 3 ≤ 16) (h : post (xT, tr, ep, ind, vc, pc, nI (D + 3), nI E, nI (p + 1), nI t, nI (l + 1), c, a, nm, nv, ps, pst, psk, jm, cp, upd stk (D + 2) (stk D), em, ce, rp, ct, cm)) : wpX_carryOut post (xT, tr, ep, ind, vc, pc, nI (D + 2), nI E, nI p, nI t, nI (l + 1), c, a, nm, nv, ps, pst, psk, jm, cp, stk, em, ce, rp, ct, cm) := by
  refine xh_8 hp hc ?_
  unfold wX_carryOut_128
  refine sx_re8 hD ?_
  exact nm_r (nI_1 p) h
theorem xc_9 {post : SX → Prop} (hp : p < 80) (hc : c p = 9) (hD : D + 3 ≤ 16) (h : post (xT, tr, ep, ind, vc, pc, nI (D + 3), nI E, nI (p + 1), nI t, nI (l + 1), c, a, nm, nv, ps, pst, psk, jm, cp, upd (upd (upd stk D (stk (D + 1))) (D + 1) (stk (D + 2))) (D + 2) (stk D), em, ce, rp, ct, cm)) : wpX_carryOut post (xT, tr, ep, ind, vc, pc, nI (D + 3), nI E, nI p, nI t, nI (l + 1), c, a, nm, nv, ps, pst, psk, jm, cp, stk, em, ce, rp, ct, cm) := by
  refine xh_9 hp hc ?_
  unfold wX_carryOut_128
  refine sx_re9 hD ?_
  exact nm_r (nI_1 p) h
theorem xc_12 {post : SX → Prop} (hp : p < 80) (hc : c p = 12) {n : Nat} (hn : n < 12) (hD : D < 16) (e : stk D = nI n) (h : post (xT, tr, ep, ind, vc, pc, nI (D + 1), nI E, nI (p + 1), nI t, nI (l + 1), c, a, nm, nv, ps, pst, psk, jm, cp, upd stk D (ce n), em, ce, rp, ct, cm)) : wpX_carryOut post (xT, tr, ep, ind, vc, pc, nI (D + 1), nI E, nI p, nI t, nI (l + 1), c, a, nm, nv, ps, pst, psk, jm, cp, stk, em, ce, rp, ct, cm) := by
  refine xh_12 hp hc ?_
  unfold wX_carryOut_146
  refine sx_mv12 hn hD e ?_
  exact nm_r (nI_1 p) h
theorem xc_13 {post : SX → Prop} (hp : p < 80) (hc : c p = 13) {n : Nat} (hn : n < 12) (hD : D + 2 ≤ 16) (e : stk (D + 1) = nI n) (h : post (xT, tr, ep, ind, vc, pc, nI (D), nI E, nI (p + 1), nI t, nI (l + 1), c, a, nm, nv, ps, pst, psk, jm, cp, stk, em, upd ce n (stk D), rp, ct, cm)) : wpX_carryOut post (xT, tr, ep, ind, vc, pc, nI (D + 2), nI E, nI p, nI t, nI (l + 1), c, a, nm, nv, ps, pst, psk, jm, cp, stk, em, ce, rp, ct, cm) := by
  refine xh_13 hp hc ?_
  unfold wX_carryOut_146
  refine sx_mv13 hn hD e ?_
  exact nm_r (nI_1 p) h
theorem xc_14 {post : SX → Prop} (hp : p < 80) (hc : c p = 14) (hE : E < 16) (hD : D < 16) (h : post (xT, tr, ep, ind, vc, pc, nI (D), nI (E + 1), nI (p + 1), nI t, nI (l + 1), c, a, nm, nv, ps, pst, psk, jm, cp, stk, upd em E (stk D), ce, rp, ct, cm)) : wpX_carryOut post (xT, tr, ep, ind, vc, pc, nI (D + 1), nI E, nI p, nI t, nI (l + 1), c, a, nm, nv, ps, pst, psk, jm, cp, stk, em, ce, rp, ct, cm) := by
  refine xh_14 hp hc ?_
  unfold wX_carryOut_146
  refine sx_mv14 hE hD ?_
  exact nm_r (nI_1 p) h
theorem xc_15V {post : SX → Prop} (hp : p < 80) (hc : c p = 15) {n : Nat} (hn : n < 12) (ha : a p = nI n) (hD : D < 16) (e : nm n = 2) (h : post (xT, tr, ep, ind, vc, pc, nI (D + 1), nI E, nI (p + 1), nI t, nI (l + 1), c, a, nm, nv, ps, pst, psk, jm, cp, upd stk D (nv n), em, ce, rp, ct, cm)) : wpX_carryOut post (xT, tr, ep, ind, vc, pc, nI (D), nI E, nI p, nI t, nI (l + 1), c, a, nm, nv, ps, pst, psk, jm, cp, stk, em, ce, rp, ct, cm) := by
  refine xh_15 hp hc ?_
  refine sx_go15 hp ?_
  rw [ha]
  exact sx_unV hn hD e h
theorem xc_15W {post : SX → Prop} (hp : p < 80) (hc : c p = 15) {n : Nat} (hn : n < 12) (ha : a p = nI n) (hl : l < 7) (e : ¬ nm n = 2) (h : post (xT, tr, ep, ind, vc, pc, nI (D), nI E, nv n, nI (t + 1), nI (l + 2), c, a, nm, nv, ps, pst, psk, jm, cp, stk, em, ce, upd rp (l + 1) (nI (p + 1)), ct, cm)) : wpX_carryOut post (xT, tr, ep, ind, vc, pc, nI (D), nI E, nI p, nI t, nI (l + 1), c, a, nm, nv, ps, pst, psk, jm, cp, stk, em, ce, rp, ct, cm) := by
  refine xh_15 hp hc ?_
  refine sx_go15 hp ?_
  rw [ha]
  exact sx_unW (l := l + 1) hn (by omega) e h
theorem xc_16T {post : SX → Prop} (hp : p < 80) (hc : c p = 16) {b : Int32} (hD : D < 16) (hz : stk D = 0) (e : jm p = b) (h : post (xT, tr, ep, ind, vc, pc, nI (D), nI E, b, nI t, nI (l + 1), c, a, nm, nv, ps, pst, psk, jm, cp, stk, em, ce, rp, ct, cm)) : wpX_carryOut post (xT, tr, ep, ind, vc, pc, nI (D + 1), nI E, nI p, nI t, nI (l + 1), c, a, nm, nv, ps, pst, psk, jm, cp, stk, em, ce, rp, ct, cm) := by
  refine xh_16 hp hc ?_
  refine sx_go16 ?_
  exact sx_84T hp hD hz e h
theorem xc_16F {post : SX → Prop} (hp : p < 80) (hc : c p = 16) (hD : D < 16) (hz : ¬ stk D = 0) (h : post (xT, tr, ep, ind, vc, pc, nI (D), nI E, nI (p + 1), nI t, nI (l + 1), c, a, nm, nv, ps, pst, psk, jm, cp, stk, em, ce, rp, ct, cm)) : wpX_carryOut post (xT, tr, ep, ind, vc, pc, nI (D + 1), nI E, nI p, nI t, nI (l + 1), c, a, nm, nv, ps, pst, psk, jm, cp, stk, em, ce, rp, ct, cm) := by
  refine xh_16 hp hc ?_
  refine sx_go16 ?_
  exact sx_84F hD hz h
theorem xc_21T {post : SX → Prop} (hp : p < 80) (hc : c p = 21) {b : Int32} (hD : D < 16) (hz : stk D = 0) (e : jm p = b) (h : post (xT, tr, ep, ind, vc, pc, nI (D), nI E, b, nI t, nI (l + 1), c, a, nm, nv, ps, pst, psk, jm, cp, stk, em, ce, rp, ct, cm)) : wpX_carryOut post (xT, tr, ep, ind, vc, pc, nI (D + 1), nI E, nI p, nI t, nI (l + 1), c, a, nm, nv, ps, pst, psk, jm, cp, stk, em, ce, rp, ct, cm) := by
  refine xh_21 hp hc ?_
  refine sx_go21 ?_
  exact sx_84T hp hD hz e h
theorem xc_21F {post : SX → Prop} (hp : p < 80) (hc : c p = 21) (hD : D < 16) (hz : ¬ stk D = 0) (h : post (xT, tr, ep, ind, vc, pc, nI (D), nI E, nI (p + 1), nI t, nI (l + 1), c, a, nm, nv, ps, pst, psk, jm, cp, stk, em, ce, rp, ct, cm)) : wpX_carryOut post (xT, tr, ep, ind, vc, pc, nI (D + 1), nI E, nI p, nI t, nI (l + 1), c, a, nm, nv, ps, pst, psk, jm, cp, stk, em, ce, rp, ct, cm) := by
  refine xh_21 hp hc ?_
  refine sx_go21 ?_
  exact sx_84F hD hz h
theorem xc_17 {post : SX → Prop} (hp : p < 80) (hc : c p = 17) {b : Int32} (e : jm p = b) (h : post (xT, tr, ep, ind, vc, pc, nI (D), nI E, b, nI t, nI (l + 1), c, a, nm, nv, ps, pst, psk, jm, cp, stk, em, ce, rp, ct, cm)) : wpX_carryOut post (xT, tr, ep, ind, vc, pc, nI (D), nI E, nI p, nI t, nI (l + 1), c, a, nm, nv, ps, pst, psk, jm, cp, stk, em, ce, rp, ct, cm) := by
  refine xh_17 hp hc ?_
  exact sx_go17 hp e h
theorem xc_18 {post : SX → Prop} (hp : p < 80) (hc : c p = 18)  (h : post (xT, tr, ep, ind, vc, pc, nI (D), nI E, nI (p + 1), nI t, nI (l + 1), c, a, nm, nv, ps, pst, psk, jm, cp, stk, em, ce, rp, ct, cm)) : wpX_carryOut post (xT, tr, ep, ind, vc, pc, nI (D), nI E, nI p, nI t, nI (l + 1), c, a, nm, nv, ps, pst, psk, jm, cp, stk, em, ce, rp, ct, cm) := by
  refine xh_18 hp hc ?_
  exact sx_go18 h
theorem xc_19 {post : SX → Prop} (hp : p < 80) (hc : c p = 19)  (h : post (xT, tr, ep, ind, vc, pc, nI (D), nI E, nI (p + 1), nI t, nI (l + 1), c, a, nm, nv, ps, pst, psk, jm, cp, stk, em, ce, rp, ct, cm)) : wpX_carryOut post (xT, tr, ep, ind, vc, pc, nI (D), nI E, nI p, nI t, nI (l + 1), c, a, nm, nv, ps, pst, psk, jm, cp, stk, em, ce, rp, ct, cm) := by
  refine xh_19 hp hc ?_
  exact sx_go19 h
theorem xc_20T {post : SX → Prop} (hp : p < 80) (hc : c p = 20) {b : Int32} (hD : D < 16) (hz : stk D = 0) (e : jm p = b) (h : post (xT, tr, ep, ind, vc, pc, nI (D), nI E, b, nI (t + 1), nI (l + 1), c, a, nm, nv, ps, pst, psk, jm, cp, stk, em, ce, rp, ct, cm)) : wpX_carryOut post (xT, tr, ep, ind, vc, pc, nI (D + 1), nI E, nI p, nI t, nI (l + 1), c, a, nm, nv, ps, pst, psk, jm, cp, stk, em, ce, rp, ct, cm) := by
  refine xh_20 hp hc ?_
  refine sx_go20 ?_
  exact sx_untT hp hD hz e h
theorem xc_20F {post : SX → Prop} (hp : p < 80) (hc : c p = 20) (hD : D < 16) (hz : ¬ stk D = 0) (h : post (xT, tr, ep, ind, vc, pc, nI (D), nI E, nI (p + 1), nI t, nI (l + 1), c, a, nm, nv, ps, pst, psk, jm, cp, stk, em, ce, rp, ct, cm)) : wpX_carryOut post (xT, tr, ep, ind, vc, pc, nI (D + 1), nI E, nI p, nI t, nI (l + 1), c, a, nm, nv, ps, pst, psk, jm, cp, stk, em, ce, rp, ct, cm) := by
  refine xh_20 hp hc ?_
  refine sx_go20 ?_
  exact sx_untF hD hz h
theorem xc_22 {post : SX → Prop} (hp : p < 80) (hc : c p = 22) {b : Int32} (e : jm p = b) (h : post (xT, tr, ep, ind, vc, pc, nI (D), nI E, b, nI (t + 1), nI (l + 1), c, a, nm, nv, ps, pst, psk, jm, cp, stk, em, ce, rp, ct, cm)) : wpX_carryOut post (xT, tr, ep, ind, vc, pc, nI (D), nI E, nI p, nI t, nI (l + 1), c, a, nm, nv, ps, pst, psk, jm, cp, stk, em, ce, rp, ct, cm) := by
  refine xh_22 hp hc ?_
  refine sx_go22 ?_
  exact sx_tback hp e h
theorem xc_23T {post : SX → Prop} (hp : p < 80) (hc : c p = 23) {m : Nat} (hD : D < 16) (hz : 0 < stk D) (e : cp p = nI m) (hm : l * 6 + m < 48) (h : post (xT, tr, ep, ind, vc, pc, nI (D), nI E, nI (p + 1), nI t, nI (l + 1), c, a, nm, nv, ps, pst, psk, jm, cp, stk, em, ce, rp, upd ct (l * 6 + m) 0, upd cm (l * 6 + m) (stk D))) : wpX_carryOut post (xT, tr, ep, ind, vc, pc, nI (D + 1), nI E, nI p, nI t, nI (l + 1), c, a, nm, nv, ps, pst, psk, jm, cp, stk, em, ce, rp, ct, cm) := by
  refine xh_23 hp hc ?_
  refine sx_go23 ?_
  exact sx_scT hp hD hz e hm h
theorem xc_23F {post : SX → Prop} (hp : p < 80) (hc : c p = 23) {b : Int32} (hD : D < 16) (hz : ¬ 0 < stk D) (e : jm p = b) (h : post (xT, tr, ep, ind, vc, pc, nI (D), nI E, b, nI t, nI (l + 1), c, a, nm, nv, ps, pst, psk, jm, cp, stk, em, ce, rp, ct, cm)) : wpX_carryOut post (xT, tr, ep, ind, vc, pc, nI (D + 1), nI E, nI p, nI t, nI (l + 1), c, a, nm, nv, ps, pst, psk, jm, cp, stk, em, ce, rp, ct, cm) := by
  refine xh_23 hp hc ?_
  refine sx_go23 ?_
  exact sx_scF hp hD hz e h
theorem xc_24T {post : SX → Prop} (hp : p < 80) (hc : c p = 24) {m : Nat} (e : cp p = nI m) (hm : l * 6 + m < 48) (hk : cm (l * 6 + m) ≤ ct (l * 6 + m) + 1) (h : post (xT, tr, ep, ind, vc, pc, nI (D), nI E, nI (p + 1), nI (t + 1), nI (l + 1), c, a, nm, nv, ps, pst, psk, jm, cp, stk, em, ce, rp, upd ct (l * 6 + m) (ct (l * 6 + m) + 1), cm)) : wpX_carryOut post (xT, tr, ep, ind, vc, pc, nI (D), nI E, nI p, nI t, nI (l + 1), c, a, nm, nv, ps, pst, psk, jm, cp, stk, em, ce, rp, ct, cm) := by
  refine xh_24 hp hc ?_
  refine sx_go24 ?_
  exact sx_acT hp e hm hk h
theorem xc_24F {post : SX → Prop} (hp : p < 80) (hc : c p = 24) {m : Nat} {b : Int32} (e : cp p = nI m) (hm : l * 6 + m < 48) (hk : ¬ cm (l * 6 + m) ≤ ct (l * 6 + m) + 1) (ej : jm p = b) (h : post (xT, tr, ep, ind, vc, pc, nI (D), nI E, b, nI (t + 1), nI (l + 1), c, a, nm, nv, ps, pst, psk, jm, cp, stk, em, ce, rp, upd ct (l * 6 + m) (ct (l * 6 + m) + 1), cm)) : wpX_carryOut post (xT, tr, ep, ind, vc, pc, nI (D), nI E, nI p, nI t, nI (l + 1), c, a, nm, nv, ps, pst, psk, jm, cp, stk, em, ce, rp, ct, cm) := by
  refine xh_24 hp hc ?_
  refine sx_go24 ?_
  exact sx_acF hp e hm hk ej h
theorem xc_25 {post : SX → Prop} (hp : p < 80) (hc : c p = 25) {m : Nat} (hD : D < 16) (e : cp p = nI m) (hm : l * 6 + m < 48) (h : post (xT, tr, ep, ind, vc, pc, nI (D + 1), nI E, nI (p + 1), nI t, nI (l + 1), c, a, nm, nv, ps, pst, psk, jm, cp, upd stk D (ct (l * 6 + m)), em, ce, rp, ct, cm)) : wpX_carryOut post (xT, tr, ep, ind, vc, pc, nI (D), nI E, nI p, nI t, nI (l + 1), c, a, nm, nv, ps, pst, psk, jm, cp, stk, em, ce, rp, ct, cm) := by
  refine xh_25 hp hc ?_
  refine sx_go25 ?_
  exact sx_pc hp hD e hm h
theorem xc_27 {post : SX → Prop} (hp : p < 80) (hc : c p = 27) (hl : l < 8) (h : post (xT, tr, ep, ind, vc, pc, nI (D), nI E, rp l, nI t, nI l, c, a, nm, nv, ps, pst, psk, jm, cp, stk, em, ce, rp, ct, cm)) : wpX_carryOut post (xT, tr, ep, ind, vc, pc, nI (D), nI E, nI p, nI t, nI (l + 1), c, a, nm, nv, ps, pst, psk, jm, cp, stk, em, ce, rp, ct, cm) := by
  refine xh_27 hp hc ?_
  refine sx_go27 ?_
  exact sx_ec hl h
end
