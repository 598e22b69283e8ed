section
variable {xT tr ep ind vc pc xD xE cur tu ca yT yD yE lv yt : Int32} {c a nm nv ps pst psk jm cp stk em ce rp ct cm po yc ye : Nat → Int32}
variable {T p : Nat} {ytr : Int32}
theorem sg_a0 (hT : p < T) (h80 : T ≤ 80) (I : sk_I T p c a ind vc pc nm nv ps pst psk jm cp) (hi : sk_in c p = 1) (O : sk_Ok c a p) (h : c p < 16) : ∃ (ind0 pc0 : Int32) (ps0 pst0 psk0 jm0 cp0 : Nat → Int32), (∀ post : SX → Prop, post (xT, tr, ep, ind0, vc, pc0, xD, xE, cur, tu, ca, c, a, nm, nv, ps0, pst0, psk0, jm0, cp0, stk, em, ce, rp, ct, cm) → wpX_arrangeParts post (xT, tr, ep, ind, vc, pc, xD, xE, cur, tu, ca, c, a, nm, nv, ps, pst, psk, jm, cp, stk, em, ce, rp, ct, cm) (nI p)) ∧ sk_I T (p + 1) c a ind0 vc pc0 nm nv ps0 pst0 psk0 jm0 cp0 := by
  have e : c (nI p).toNatClampNeg = c p := by rw [nI_clamp (n := p) (by omega)]
  refine ⟨_, _, _, _, _, _, _, fun post hpost => ⟨vp_in_nI (n := p) (by omega) (by decide), nm_r e (br_t h hpost)⟩, ?_⟩
  have n27 : c p ≠ 27 := fun y => by rw [y] at h; exact absurd h (by decide)
  have K := sg_lo I hi O (Or.inl h) (fun _ _ => rfl) (fun y => by rw [y] at h; exact absurd h (by decide))
  rw [sk_inS O.1.2.2 n27, ← I.1] at K
  exact K
theorem sg_a16 (hT : p < T) (h80 : T ≤ 80) (I : sk_I T p c a ind vc pc nm nv ps pst psk jm cp) (hi : sk_in c p = 1) (O : sk_Ok c a p) (h : c p = 16) : ∃ (ind0 pc0 : Int32) (ps0 pst0 psk0 jm0 cp0 : Nat → Int32), (∀ post : SX → Prop, post (xT, tr, ep, ind0, vc, pc0, xD, xE, cur, tu, ca, c, a, nm, nv, ps0, pst0, psk0, jm0, cp0, stk, em, ce, rp, ct, cm) → wpX_arrangeParts post (xT, tr, ep, ind, vc, pc, xD, xE, cur, tu, ca, c, a, nm, nv, ps, pst, psk, jm, cp, stk, em, ce, rp, ct, cm) (nI p)) ∧ sk_I T (p + 1) c a ind0 vc pc0 nm nv ps0 pst0 psk0 jm0 cp0 := by
  have e : c (nI p).toNatClampNeg = 16 := by rw [nI_clamp (n := p) (by omega)]; exact h
  have h0 : sk_op (c p) := by rw [h]; decide
  have K := sg_op I hi O h0
  have e3 := I.2.2.1
  subst e3
  refine ⟨_, _, _, _, _, _, _, fun post hpost => ⟨vp_in_nI (n := p) (by omega) (by decide), nm_r e (br_f (by decide) (br_f (by decide) (br_t rfl (sx_68 (by omega) (O.2.2.1 h0) hpost))))⟩, K⟩
theorem sg_a19 (hT : p < T) (h80 : T ≤ 80) (I : sk_I T p c a ind vc pc nm nv ps pst psk jm cp) (hi : sk_in c p = 1) (O : sk_Ok c a p) (h : c p = 19) : ∃ (ind0 pc0 : Int32) (ps0 pst0 psk0 jm0 cp0 : Nat → Int32), (∀ post : SX → Prop, post (xT, tr, ep, ind0, vc, pc0, xD, xE, cur, tu, ca, c, a, nm, nv, ps0, pst0, psk0, jm0, cp0, stk, em, ce, rp, ct, cm) → wpX_arrangeParts post (xT, tr, ep, ind, vc, pc, xD, xE, cur, tu, ca, c, a, nm, nv, ps, pst, psk, jm, cp, stk, em, ce, rp, ct, cm) (nI p)) ∧ sk_I T (p + 1) c a ind0 vc pc0 nm nv ps0 pst0 psk0 jm0 cp0 := by
  have e : c (nI p).toNatClampNeg = 19 := by rw [nI_clamp (n := p) (by omega)]; exact h
  have h0 : sk_op (c p) := by rw [h]; decide
  have K := sg_op I hi O h0
  have e3 := I.2.2.1
  subst e3
  refine ⟨_, _, _, _, _, _, _, fun post hpost => ⟨vp_in_nI (n := p) (by omega) (by decide), nm_r e (br_f (by decide) (br_f (by decide) (br_f (by decide) (br_f (by decide) (br_f (by decide) (br_t rfl (sx_68 (by omega) (O.2.2.1 h0) hpost)))))))⟩, K⟩
theorem sg_a23 (hT : p < T) (h80 : T ≤ 80) (I : sk_I T p c a ind vc pc nm nv ps pst psk jm cp) (hi : sk_in c p = 1) (O : sk_Ok c a p) (h : c p = 23) : ∃ (ind0 pc0 : Int32) (ps0 pst0 psk0 jm0 cp0 : Nat → Int32), (∀ post : SX → Prop, post (xT, tr, ep, ind0, vc, pc0, xD, xE, cur, tu, ca, c, a, nm, nv, ps0, pst0, psk0, jm0, cp0, stk, em, ce, rp, ct, cm) → wpX_arrangeParts post (xT, tr, ep, ind, vc, pc, xD, xE, cur, tu, ca, c, a, nm, nv, ps, pst, psk, jm, cp, stk, em, ce, rp, ct, cm) (nI p)) ∧ sk_I T (p + 1) c a ind0 vc pc0 nm nv ps0 pst0 psk0 jm0 cp0 := by
  have e : c (nI p).toNatClampNeg = 23 := by rw [nI_clamp (n := p) (by omega)]; exact h
  have h0 : sk_op (c p) := by rw [h]; decide
  have K := sg_op I hi O h0
  have e3 := I.2.2.1
  subst e3
  refine ⟨_, _, _, _, _, _, _, fun post hpost => ⟨vp_in_nI (n := p) (by omega) (by decide), nm_r e (br_f (by decide) (br_f (by decide) (br_f (by decide) (br_f (by decide) (br_f (by decide) (br_f (by decide) (br_f (by decide) (br_f (by decide) (br_f (by decide) (br_t rfl (sx_68 (by omega) (O.2.2.1 h0) hpost)))))))))))⟩, K⟩
theorem sg_a17 (hT : p < T) (h80 : T ≤ 80) (I : sk_I T p c a ind vc pc nm nv ps pst psk jm cp) (hi : sk_in c p = 1) (O : sk_Ok c a p) (h : c p = 17) : ∃ (ind0 pc0 : Int32) (ps0 pst0 psk0 jm0 cp0 : Nat → Int32), (∀ post : SX → Prop, post (xT, tr, ep, ind0, vc, pc0, xD, xE, cur, tu, ca, c, a, nm, nv, ps0, pst0, psk0, jm0, cp0, stk, em, ce, rp, ct, cm) → wpX_arrangeParts post (xT, tr, ep, ind, vc, pc, xD, xE, cur, tu, ca, c, a, nm, nv, ps, pst, psk, jm, cp, stk, em, ce, rp, ct, cm) (nI p)) ∧ sk_I T (p + 1) c a ind0 vc pc0 nm nv ps0 pst0 psk0 jm0 cp0 := by
  have e : c (nI p).toNatClampNeg = 17 := by rw [nI_clamp (n := p) (by omega)]; exact h
  have hs : sk_hs c (sk_R c p) = 16 := O.2.2.2.1 h
  obtain ⟨⟨s, k⟩, t, hR⟩ : ∃ x t, sk_R c p = x :: t := by
    cases hL : sk_R c p with
    | nil => exact absurd hL (sk_hs0 hs (by decide))
    | cons x t => exact ⟨x, t, rfl⟩
  have K := sg_ch hT I hi O (Or.inl ⟨h, hs⟩) hR
  have HH := (sk_HIa I.2.2.2.2.1).1
  have e3 := I.2.2.1
  have e4 := I.2.2.2.1
  have e6 := I.2.2.2.2.2.1
  rw [hR] at HH e3 e4 e6
  rw [List.length_cons] at e3 e4
  have kp : k < p := HH.2.2.2.1
  subst e3
  refine ⟨_, _, _, _, _, _, _, fun post hpost => ⟨vp_in_nI (n := p) (by omega) (by decide), nm_r e (br_f (by decide) (br_f (by decide) (br_f (by decide) (br_t rfl (sx_76 (by omega) (by omega) (by omega) e6.1.2.2 hpost)))))⟩, K⟩
theorem sg_a21 (hT : p < T) (h80 : T ≤ 80) (I : sk_I T p c a ind vc pc nm nv ps pst psk jm cp) (hi : sk_in c p = 1) (O : sk_Ok c a p) (h : c p = 21) : ∃ (ind0 pc0 : Int32) (ps0 pst0 psk0 jm0 cp0 : Nat → Int32), (∀ post : SX → Prop, post (xT, tr, ep, ind0, vc, pc0, xD, xE, cur, tu, ca, c, a, nm, nv, ps0, pst0, psk0, jm0, cp0, stk, em, ce, rp, ct, cm) → wpX_arrangeParts post (xT, tr, ep, ind, vc, pc, xD, xE, cur, tu, ca, c, a, nm, nv, ps, pst, psk, jm, cp, stk, em, ce, rp, ct, cm) (nI p)) ∧ sk_I T (p + 1) c a ind0 vc pc0 nm nv ps0 pst0 psk0 jm0 cp0 := by
  have e : c (nI p).toNatClampNeg = 21 := by rw [nI_clamp (n := p) (by omega)]; exact h
  have hs : sk_hs c (sk_R c p) = 19 := O.2.2.2.2.2.2.1 h
  obtain ⟨⟨s, k⟩, t, hR⟩ : ∃ x t, sk_R c p = x :: t := by
    cases hL : sk_R c p with
    | nil => exact absurd hL (sk_hs0 hs (by decide))
    | cons x t => exact ⟨x, t, rfl⟩
  have K := sg_ch hT I hi O (Or.inr ⟨h, hs⟩) hR
  have HH := (sk_HIa I.2.2.2.2.1).1
  have e3 := I.2.2.1
  have e4 := I.2.2.2.1
  have e6 := I.2.2.2.2.2.1
  rw [hR] at HH e3 e4 e6
  rw [List.length_cons] at e3 e4
  have kp : k < p := HH.2.2.2.1
  subst e3
  refine ⟨_, _, _, _, _, _, _, fun post hpost => ⟨vp_in_nI (n := p) (by omega) (by decide), nm_r e (br_f (by decide) (br_f (by decide) (br_f (by decide) (br_f (by decide) (br_f (by decide) (br_f (by decide) (br_f (by decide) (br_t rfl (sx_76 (by omega) (by omega) (by omega) e6.1.2.2 hpost)))))))))⟩, K⟩
theorem sg_a18 (hT : p < T) (h80 : T ≤ 80) (I : sk_I T p c a ind vc pc nm nv ps pst psk jm cp) (hi : sk_in c p = 1) (O : sk_Ok c a p) (h : c p = 18) : ∃ (ind0 pc0 : Int32) (ps0 pst0 psk0 jm0 cp0 : Nat → Int32), (∀ post : SX → Prop, post (xT, tr, ep, ind0, vc, pc0, xD, xE, cur, tu, ca, c, a, nm, nv, ps0, pst0, psk0, jm0, cp0, stk, em, ce, rp, ct, cm) → wpX_arrangeParts post (xT, tr, ep, ind, vc, pc, xD, xE, cur, tu, ca, c, a, nm, nv, ps, pst, psk, jm, cp, stk, em, ce, rp, ct, cm) (nI p)) ∧ sk_I T (p + 1) c a ind0 vc pc0 nm nv ps0 pst0 psk0 jm0 cp0 := by
  have e : c (nI p).toNatClampNeg = 18 := by rw [nI_clamp (n := p) (by omega)]; exact h
  have hne : sk_R c p ≠ [] := (O.2.2.2.2.1 h).elim (fun y => sk_hs0 y (by decide)) (fun y => sk_hs0 y (by decide))
  obtain ⟨⟨s, k⟩, t, hR⟩ : ∃ x t, sk_R c p = x :: t := by
    cases hL : sk_R c p with
    | nil => exact absurd hL hne
    | cons x t => exact ⟨x, t, rfl⟩
  have K := sg_cl hT I hi O (by rw [h]; decide) hR
  have HH := (sk_HIa I.2.2.2.2.1).1
  have e3 := I.2.2.1
  have e4 := I.2.2.2.1
  have e6 := I.2.2.2.2.2.1
  rw [hR] at HH e3 e4 e6
  rw [List.length_cons] at e3 e4
  have kp : k < p := HH.2.2.2.1
  subst e3
  refine ⟨_, _, _, _, _, _, _, fun post hpost => ⟨vp_in_nI (n := p) (by omega) (by decide), nm_r e (br_f (by decide) (br_f (by decide) (br_f (by decide) (br_f (by decide) (br_t rfl (sx_84 (by omega) (by omega) (by omega) e6.1.2.2 e6.1.2.1 hpost))))))⟩, K⟩
theorem sg_a20 (hT : p < T) (h80 : T ≤ 80) (I : sk_I T p c a ind vc pc nm nv ps pst psk jm cp) (hi : sk_in c p = 1) (O : sk_Ok c a p) (h : c p = 20) : ∃ (ind0 pc0 : Int32) (ps0 pst0 psk0 jm0 cp0 : Nat → Int32), (∀ post : SX → Prop, post (xT, tr, ep, ind0, vc, pc0, xD, xE, cur, tu, ca, c, a, nm, nv, ps0, pst0, psk0, jm0, cp0, stk, em, ce, rp, ct, cm) → wpX_arrangeParts post (xT, tr, ep, ind, vc, pc, xD, xE, cur, tu, ca, c, a, nm, nv, ps, pst, psk, jm, cp, stk, em, ce, rp, ct, cm) (nI p)) ∧ sk_I T (p + 1) c a ind0 vc pc0 nm nv ps0 pst0 psk0 jm0 cp0 := by
  have e : c (nI p).toNatClampNeg = 20 := by rw [nI_clamp (n := p) (by omega)]; exact h
  have hne : sk_R c p ≠ [] := sk_hs0 (O.2.2.2.2.2.1 h) (by decide)
  obtain ⟨⟨s, k⟩, t, hR⟩ : ∃ x t, sk_R c p = x :: t := by
    cases hL : sk_R c p with
    | nil => exact absurd hL hne
    | cons x t => exact ⟨x, t, rfl⟩
  have K := sg_cl hT I hi O (by rw [h]; decide) hR
  have HH := (sk_HIa I.2.2.2.2.1).1
  have e3 := I.2.2.1
  have e4 := I.2.2.2.1
  have e6 := I.2.2.2.2.2.1
  rw [hR] at HH e3 e4 e6
  rw [List.length_cons] at e3 e4
  have kp : k < p := HH.2.2.2.1
  subst e3
  refine ⟨_, _, _, _, _, _, _, fun post hpost => ⟨vp_in_nI (n := p) (by omega) (by decide), nm_r e (br_f (by decide) (br_f (by decide) (br_f (by decide) (br_f (by decide) (br_f (by decide) (br_f (by decide) (br_t rfl (sx_84 (by omega) (by omega) (by omega) e6.1.2.2 e6.1.2.1 hpost))))))))⟩, K⟩
theorem sg_a22 (hT : p < T) (h80 : T ≤ 80) (I : sk_I T p c a ind vc pc nm nv ps pst psk jm cp) (hi : sk_in c p = 1) (O : sk_Ok c a p) (h : c p = 22) : ∃ (ind0 pc0 : Int32) (ps0 pst0 psk0 jm0 cp0 : Nat → Int32), (∀ post : SX → Prop, post (xT, tr, ep, ind0, vc, pc0, xD, xE, cur, tu, ca, c, a, nm, nv, ps0, pst0, psk0, jm0, cp0, stk, em, ce, rp, ct, cm) → wpX_arrangeParts post (xT, tr, ep, ind, vc, pc, xD, xE, cur, tu, ca, c, a, nm, nv, ps, pst, psk, jm, cp, stk, em, ce, rp, ct, cm) (nI p)) ∧ sk_I T (p + 1) c a ind0 vc pc0 nm nv ps0 pst0 psk0 jm0 cp0 := by
  have e : c (nI p).toNatClampNeg = 22 := by rw [nI_clamp (n := p) (by omega)]; exact h
  have hne : sk_R c p ≠ [] := sk_hs0 (O.2.2.2.2.2.2.2.1 h) (by decide)
  obtain ⟨⟨s, k⟩, t, hR⟩ : ∃ x t, sk_R c p = x :: t := by
    cases hL : sk_R c p with
    | nil => exact absurd hL hne
    | cons x t => exact ⟨x, t, rfl⟩
  have K := sg_cl hT I hi O (by rw [h]; decide) hR
  have HH := (sk_HIa I.2.2.2.2.1).1
  have e3 := I.2.2.1
  have e4 := I.2.2.2.1
  have e6 := I.2.2.2.2.2.1
  rw [hR] at HH e3 e4 e6
  rw [List.length_cons] at e3 e4
  have kp : k < p := HH.2.2.2.1
  subst e3
  refine ⟨_, _, _, _, _, _, _, fun post hpost => ⟨vp_in_nI (n := p) (by omega) (by decide), nm_r e (br_f (by decide) (br_f (by decide) (br_f (by decide) (br_f (by decide) (br_f (by decide) (br_f (by decide) (br_f (by decide) (br_f (by decide) (br_t rfl (sx_84 (by omega) (by omega) (by omega) e6.1.2.2 e6.1.2.1 hpost))))))))))⟩, K⟩
theorem sg_a24 (hT : p < T) (h80 : T ≤ 80) (I : sk_I T p c a ind vc pc nm nv ps pst psk jm cp) (hi : sk_in c p = 1) (O : sk_Ok c a p) (h : c p = 24) : ∃ (ind0 pc0 : Int32) (ps0 pst0 psk0 jm0 cp0 : Nat → Int32), (∀ post : SX → Prop, post (xT, tr, ep, ind0, vc, pc0, xD, xE, cur, tu, ca, c, a, nm, nv, ps0, pst0, psk0, jm0, cp0, stk, em, ce, rp, ct, cm) → wpX_arrangeParts post (xT, tr, ep, ind, vc, pc, xD, xE, cur, tu, ca, c, a, nm, nv, ps, pst, psk, jm, cp, stk, em, ce, rp, ct, cm) (nI p)) ∧ sk_I T (p + 1) c a ind0 vc pc0 nm nv ps0 pst0 psk0 jm0 cp0 := by
  have e : c (nI p).toNatClampNeg = 24 := by rw [nI_clamp (n := p) (by omega)]; exact h
  have hne : sk_R c p ≠ [] := sk_hs0 (O.2.2.2.2.2.2.2.2.1 h) (by decide)
  obtain ⟨⟨s, k⟩, t, hR⟩ : ∃ x t, sk_R c p = x :: t := by
    cases hL : sk_R c p with
    | nil => exact absurd hL hne
    | cons x t => exact ⟨x, t, rfl⟩
  have K := sg_cl hT I hi O (by rw [h]; decide) hR
  have HH := (sk_HIa I.2.2.2.2.1).1
  have e3 := I.2.2.1
  have e4 := I.2.2.2.1
  have e6 := I.2.2.2.2.2.1
  rw [hR] at HH e3 e4 e6
  rw [List.length_cons] at e3 e4
  have kp : k < p := HH.2.2.2.1
  subst e3
  refine ⟨_, _, _, _, _, _, _, fun post hpost => ⟨vp_in_nI (n := p) (by omega) (by decide), nm_r e (br_f (by decide) (br_f (by decide) (br_f (by decide) (br_f (by decide) (br_f (by decide) (br_f (by decide) (br_f (by decide) (br_f (by decide) (br_f (by decide) (br_f (by decide) (br_t rfl (sx_84 (by omega) (by omega) (by omega) e6.1.2.2 e6.1.2.1 hpost))))))))))))⟩, K⟩
theorem sg_a25 (hT : p < T) (h80 : T ≤ 80) (I : sk_I T p c a ind vc pc nm nv ps pst psk jm cp) (hi : sk_in c p = 1) (O : sk_Ok c a p) (h : c p = 25) : ∃ (ind0 pc0 : Int32) (ps0 pst0 psk0 jm0 cp0 : Nat → Int32), (∀ post : SX → Prop, post (xT, tr, ep, ind0, vc, pc0, xD, xE, cur, tu, ca, c, a, nm, nv, ps0, pst0, psk0, jm0, cp0, stk, em, ce, rp, ct, cm) → wpX_arrangeParts post (xT, tr, ep, ind, vc, pc, xD, xE, cur, tu, ca, c, a, nm, nv, ps, pst, psk, jm, cp, stk, em, ce, rp, ct, cm) (nI p)) ∧ sk_I T (p + 1) c a ind0 vc pc0 nm nv ps0 pst0 psk0 jm0 cp0 := by
  have e : c (nI p).toNatClampNeg = 25 := by rw [nI_clamp (n := p) (by omega)]; exact h
  have K := sg_lo I hi O (Or.inr (Or.inl h)) (cp' := upd cp p (sk_ti c (sk_R c p))) (fun q hq => pk_un hq) (fun _ => pk_us)
  rw [sk_inS O.1.2.2 (by rw [h]; decide), ← I.1] at K
  have e3 := I.2.2.1
  subst e3
  refine ⟨_, _, _, _, _, _, _, fun post hpost => ⟨vp_in_nI (n := p) (by omega) (by decide), nm_r e (br_f (by decide) (br_f (by decide) (br_f (by decide) (br_f (by decide) (br_f (by decide) (br_f (by decide) (br_f (by decide) (br_f (by decide) (br_f (by decide) (br_f (by decide) (br_f (by decide) (br_t rfl (sx_inner I.2.2.2.1 I.2.2.2.2.2.1 ⟨vp_in_nI (n := p) (by omega) (by decide), nm_r (by rw [nI_clamp (n := p) (by omega)]) hpost⟩)))))))))))))⟩, K⟩
theorem sg_a27 (hT : p < T) (h80 : T ≤ 80) (I : sk_I T p c a ind vc pc nm nv ps pst psk jm cp) (hi : sk_in c p = 1) (O : sk_Ok c a p) (h : c p = 27) : ∃ (ind0 pc0 : Int32) (ps0 pst0 psk0 jm0 cp0 : Nat → Int32), (∀ post : SX → Prop, post (xT, tr, ep, ind0, vc, pc0, xD, xE, cur, tu, ca, c, a, nm, nv, ps0, pst0, psk0, jm0, cp0, stk, em, ce, rp, ct, cm) → wpX_arrangeParts post (xT, tr, ep, ind, vc, pc, xD, xE, cur, tu, ca, c, a, nm, nv, ps, pst, psk, jm, cp, stk, em, ce, rp, ct, cm) (nI p)) ∧ sk_I T (p + 1) c a ind0 vc pc0 nm nv ps0 pst0 psk0 jm0 cp0 := by
  have e : c (nI p).toNatClampNeg = 27 := by rw [nI_clamp (n := p) (by omega)]; exact h
  have K := sg_lo I hi O (Or.inr (Or.inr h)) (fun _ _ => rfl) (fun y => by rw [h] at y; exact absurd y (by decide))
  rw [sk_in27 h] at K
  refine ⟨_, _, _, _, _, _, _, fun post hpost => ⟨vp_in_nI (n := p) (by omega) (by decide), nm_r e (br_f (by decide) (br_f (by decide) (br_f (by decide) (br_f (by decide) (br_f (by decide) (br_f (by decide) (br_f (by decide) (br_f (by decide) (br_f (by decide) (br_f (by decide) (br_f (by decide) (br_f (by decide) (br_f (by decide) (br_t rfl (hpost)))))))))))))))⟩, K⟩
theorem sg_all (hT : p < T) (h80 : T ≤ 80) (I : sk_I T p c a ind vc pc nm nv ps pst psk jm cp) (hi : sk_in c p = 1) (O : sk_Ok c a p) : ∃ (ind0 pc0 : Int32) (ps0 pst0 psk0 jm0 cp0 : Nat → Int32), (∀ post : SX → Prop, post (xT, tr, ep, ind0, vc, pc0, xD, xE, cur, tu, ca, c, a, nm, nv, ps0, pst0, psk0, jm0, cp0, stk, em, ce, rp, ct, cm) → wpX_arrangeParts post (xT, tr, ep, ind, vc, pc, xD, xE, cur, tu, ca, c, a, nm, nv, ps, pst, psk, jm, cp, stk, em, ce, rp, ct, cm) (nI p)) ∧ sk_I T (p + 1) c a ind0 vc pc0 nm nv ps0 pst0 psk0 jm0 cp0 := by
  rcases sk_cases (c p) with h | h | h | h | h | h | h | h | h | h | h | h | h | h | h
  · refine sg_a0 hT h80 I hi O ?_
    rw [Int32.lt_iff_toInt_lt] at h ⊢
    have i1 : (15 : Int32).toInt = 15 := by decide
    have i2 : (16 : Int32).toInt = 16 := by decide
    omega
  · exact absurd h O.1.2.1
  · exact sg_a0 hT h80 I hi O (by rw [h]; decide)
  · exact sg_a16 hT h80 I hi O h
  · exact sg_a17 hT h80 I hi O h
  · exact sg_a18 hT h80 I hi O h
  · exact sg_a19 hT h80 I hi O h
  · exact sg_a20 hT h80 I hi O h
  · exact sg_a21 hT h80 I hi O h
  · exact sg_a22 hT h80 I hi O h
  · exact sg_a23 hT h80 I hi O h
  · exact sg_a24 hT h80 I hi O h
  · exact sg_a25 hT h80 I hi O h
  · exact absurd h O.1.2.2
  · exact sg_a27 hT h80 I hi O h
theorem so_N {x y : Int32} {n : Nat} (hn : n < 12) (ha : a p = nI n) (hd : ∀ q, q < p → ¬ sk_df c a q (nI n)) (N : sk_N c a p nm nv) (h : (c p = 26 ∧ x = 1 ∧ y = nI (p + 1)) ∨ (c p = 28 ∧ x = 2 ∧ y = nI (sk_vs c p))) : sk_N c a (p + 1) (upd nm n x) (upd nv n y) := by
  intro m hm
  by_cases e : m = n
  · subst e
    rw [pk_us, pk_us]
    refine Or.inr ⟨p, by omega, ⟨h.elim (fun z => Or.inl z.1) (fun z => Or.inr z.1), ha⟩, hd, h⟩
  · rw [pk_un e, pk_un e]
    rcases N m hm with ⟨z1, z2⟩ | ⟨q, hq, z⟩
    · refine Or.inl ⟨z1, sk_lts z2 (fun w => ?_)⟩
      have := w.2
      rw [ha, nI_eq (by omega) (by omega)] at this
      exact e this.symm
    · exact Or.inr ⟨q, by omega, z⟩
theorem so_all (hT : p < T) (h80 : T ≤ 80) (I : sk_I T p c a ind vc pc nm nv ps pst psk jm cp) (hi : sk_in c p = 0) : ∃ e : Int32, (∀ post : Int32 → Prop, post e → wpY_outside post (yT, ytr, ep, yD, yE, lv, yt, c, a, stk, em, ce, po, yc, ye) (nI p)) ∧ ((e ≠ 0 ∧ ∀ post : Int32 → SX → Prop, post e (xT, tr, ep, ind, vc, pc, xD, xE, cur, tu, ca, c, a, nm, nv, ps, pst, psk, jm, cp, stk, em, ce, rp, ct, cm) → wpX_translateOutside post (xT, tr, ep, ind, vc, pc, xD, xE, cur, tu, ca, c, a, nm, nv, ps, pst, psk, jm, cp, stk, em, ce, rp, ct, cm) (nI p)) ∨ (e = 0 ∧ ∃ (ind0 vc0 : Int32) (nm0 nv0 : Nat → Int32), (∀ post : Int32 → SX → Prop, post 0 (xT, tr, ep, ind0, vc0, pc, xD, xE, cur, tu, ca, c, a, nm0, nv0, ps, pst, psk, jm, cp, stk, em, ce, rp, ct, cm) → wpX_translateOutside post (xT, tr, ep, ind, vc, pc, xD, xE, cur, tu, ca, c, a, nm, nv, ps, pst, psk, jm, cp, stk, em, ce, rp, ct, cm) (nI p)) ∧ sk_I T (p + 1) c a ind0 vc0 pc nm0 nv0 ps pst psk jm cp)) := by
  have e : c (nI p).toNatClampNeg = c p := by rw [nI_clamp (n := p) (by omega)]
  have e2 : a (nI p).toNatClampNeg = a p := by rw [nI_clamp (n := p) (by omega)]
  have V : ∀ {N : Nat}, N = 80 → vp_in (nI p) N := fun e => by rw [e]; exact vp_in_nI (n := p) (by omega) (by decide)
  by_cases h1 : c p = 26 ∨ c p = 28
  · have gX : ∀ post : Int32 → SX → Prop, wX_translateOutside_28 post (nI p) (c p) (a p) xT tr ep ind vc pc xD xE cur tu ca c a nm nv ps pst psk jm cp stk em ce rp ct cm → wpX_translateOutside post (xT, tr, ep, ind, vc, pc, xD, xE, cur, tu, ca, c, a, nm, nv, ps, pst, psk, jm, cp, stk, em, ce, rp, ct, cm) (nI p) := by
      intro post z
      refine ⟨V rfl, nm_r e ⟨V rfl, nm_r e2 ?_⟩⟩
      by_cases h26 : c p = 26
      · exact br_t h26 z
      · exact br_f h26 (br_t (h1.resolve_left h26) z)
    have gY : ∀ post : Int32 → Prop, wY_outside_24 post (nI p) yT ytr ep yD yE lv yt c a stk em ce po yc ye → wpY_outside post (yT, ytr, ep, yD, yE, lv, yt, c, a, stk, em, ce, po, yc, ye) (nI p) := by
      intro post z
      refine ⟨V rfl, ?_⟩
      rw [e]
      by_cases h26 : c p = 26
      · exact br_t h26 z
      · exact br_f h26 ⟨V rfl, br_t (h1.resolve_left h26) z⟩
    by_cases hn : sk_nm (a p)
    · obtain ⟨n, hn12, ha⟩ := sk_nmI hn
      have Vn : ∀ {N : Nat}, N = 12 → vp_in (nI n) N := fun e => by rw [e]; exact vp_in_nI (n := n) (by omega) (by decide)
      have I' := I
      obtain ⟨i1, i2, i3, i4, i5, i6, i7, i8, i9, i10⟩ := I
      rcases i7 n hn12 with ⟨z1, z2⟩ | ⟨q, hq, z2, z3, z4⟩
      · have hR := (sk_HIa i5).2 hi
        have Oo : sk_Oo c a p := ⟨h1, hn, by rw [ha]; exact z2⟩
        have TT : ∀ q, q < p + 1 → sk_Tk c a q := sk_lts i5 ⟨fun _ => Oo, fun y => absurd (hi.symm.trans y) (by decide)⟩
        refine ⟨0, fun post hpost => gY post ⟨V rfl, by rw [e2]; exact sy_nmT hn (br_f (by decide) ⟨V rfl, sy_dfN (by omega) (by rw [ha]; exact z2) (br_t (by decide) hpost)⟩)⟩, Or.inr ⟨rfl, ?_⟩⟩
        by_cases h26 : c p = 26
        · refine ⟨1, vc, upd nm n 1, upd nv n (nI (p + 1)), fun post hpost => gX post ?_, ?_⟩
          · rw [ha]
            refine sx_nmT (by rw [← ha]; exact hn) (br_f (by decide) ⟨Vn rfl, ?_⟩)
            rw [nI_clamp (n := n) (by omega)]
            exact br_t z1 (br_t h26 ⟨Vn rfl, nm_e ⟨Vn rfl, nm_r (by rw [nI_1]) hpost⟩⟩)
          · have n28 : c p ≠ 28 := by rw [h26]; decide
            rw [hR] at i3 i9
            refine ⟨(sk_in26 h26).symm, by rw [sk_vsin n28]; exact i2, by rw [sk_R26 h26]; exact i3, by rw [sk_R26 h26]; exact Nat.zero_le _, TT, by rw [sk_R26 h26]; trivial, so_N hn12 ha z2 i7 (Or.inl ⟨h26, rfl, rfl⟩), by rw [sk_vsin n28, sk_cv1 nm n (by rw [z1]; decide) 1 (by decide)]; exact i8, ?_, ?_⟩
            · rw [sk_R26 h26]
              refine sk_lts i9 (fun _ => ⟨fun y => ?_, fun y => ?_⟩) <;> rw [h26] at y <;> exact absurd y (by decide)
            · refine sk_lts i10 ⟨fun y => ?_, fun y => ?_, fun y => ?_⟩ <;> rw [h26] at y <;> exact absurd y (by decide)
        · have h28 := h1.resolve_left h26
          have eR : sk_R c (p + 1) = sk_R c p := sk_Rpl (by rw [h28]; decide) (by rw [h28]; decide) (by rw [h28]; decide) h26
          have eV : sk_vs c (p + 1) = sk_vs c p + 1 := by rw [sk_vs, if_pos h28]
          refine ⟨ind, nI (sk_vs c p + 1), upd nm n 2, upd nv n vc, fun post hpost => gX post ?_, ?_⟩
          · rw [ha]
            refine sx_nmT (by rw [← ha]; exact hn) (br_f (by decide) ⟨Vn rfl, ?_⟩)
            rw [nI_clamp (n := n) (by omega)]
            exact br_t z1 (br_f h26 ⟨Vn rfl, nm_e ⟨Vn rfl, nm_e (nm_r (by rw [i2, nI_1]) hpost)⟩⟩)
          · refine ⟨by rw [sk_inS h26 (by rw [h28]; decide)]; exact i1, by rw [eV], by rw [eR]; exact i3, by rw [eR]; exact i4, TT, by rw [eR]; exact i6, so_N hn12 ha z2 i7 (Or.inr ⟨h28, rfl, i2⟩), by rw [eV, sk_cv2 nm n (by rw [z1]; decide) 12 hn12, i8], ?_, ?_⟩
            · rw [eR]
              refine sk_lts i9 (fun _ => ⟨fun y => ?_, fun y => ?_⟩) <;> rw [h28] at y <;> exact absurd y (by decide)
            · refine sk_lts i10 ⟨fun y => ?_, fun y => ?_, fun y => ?_⟩ <;> rw [h28] at y <;> exact absurd y (by decide)
      · refine ⟨3, fun post hpost => gY post ⟨V rfl, by rw [e2]; exact sy_nmT hn (br_f (by decide) ⟨V rfl, by rw [ha]; exact sy_dfS (by omega) hq z2 z3 (br_f (nI_pos (by omega)) hpost)⟩)⟩, Or.inl ⟨by decide, fun post hpost => gX post ?_⟩⟩
        rw [ha]
        refine sx_nmT (by rw [← ha]; exact hn) (br_f (by decide) ⟨Vn rfl, ?_⟩)
        rw [nI_clamp (n := n) (by omega)]
        refine br_f ?_ hpost
        rcases z4 with z | z <;> rw [z.2.1] <;> decide
    · exact ⟨2, fun post hpost => gY post ⟨V rfl, by rw [e2]; exact sy_nmF hn (br_t rfl hpost)⟩, Or.inl ⟨by decide, fun post hpost => gX post (sx_nmF hn (br_t rfl hpost))⟩⟩
  · have n26 : ¬ c p = 26 := fun y => h1 (Or.inl y)
    have n28 : ¬ c p = 28 := fun y => h1 (Or.inr y)
    refine ⟨1, fun post hpost => ⟨V rfl, ?_⟩, Or.inl ⟨by decide, fun post hpost => ⟨V rfl, nm_r e ⟨V rfl, nm_r e2 (br_f n26 (br_f n28 hpost))⟩⟩⟩⟩
    rw [e]
    exact br_f n26 ⟨V rfl, br_f n28 hpost⟩
end
