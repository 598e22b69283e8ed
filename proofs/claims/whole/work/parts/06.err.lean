theorem sk_HIlt {c : Nat → Int32} {p : Nat} {x : Nat × Nat} : ∀ {L : List (Nat × Nat)}, sk_HI c p L → x ∈ L → x.1 < p
  | [], _, h => by cases h
  | (q, k) :: t, ⟨_, h2, _, _, _, _, _, _, h9⟩, h => by
    rcases List.mem_cons.mp h with h | h
    · subst h; exact h2
    · exact sk_HIlt h9 h
section
variable {xT tr ep ind vc pc xD xE cur tu ca yT yD yE lv yt : Int32} {c a nm nv ps pst psk jm cp stk em ce rp ct cm po yc ye : Nat → Int32}
variable {ytr : Int32}
theorem sk_nm1 {n : Nat} (h : n < 2 ^ 31) : ¬ nI n = -1 := fun y => nI_pos h (by rw [y]; decide)
theorem se_15 {p : Nat} (hp : p < 80) (h6 : (sk_R c p).length ≤ 6) (hL : sk_LA c ps pst psk (sk_R c p)) (hH : sk_HI c p (sk_R c p)) (W1 : ∀ q, q < p → (c q = 17 ∨ c q = 21) → sk_R c q ≠ []) (W2 : ∀ q, q < p → sk_cl (c q) → sk_R c q ≠ []) (hc : c p = 15) : ∃ e : Int32, (∀ post : Int32 → Prop, post e → wpX_errorInside post (xT, tr, ep, ind, vc, nI (sk_R c p).length, xD, xE, cur, tu, ca, c, a, nm, nv, ps, pst, psk, jm, cp, stk, em, ce, rp, ct, cm) (nI p)) ∧ (∀ post : Int32 → Prop, post e → wpY_inside post (yT, ytr, ep, yD, yE, lv, yt, c, a, stk, em, ce, po, yc, ye) (nI p)) ∧ (e = 0 → sk_Ok c a p) := by
  have e : c (nI p).toNatClampNeg = 15 := by rw [nI_clamp (n := p) (by omega)]; exact hc
  have e2 : a (nI p).toNatClampNeg = a p := by rw [nI_clamp (n := p) (by omega)]
  by_cases h : sk_nm (a p)
  · refine ⟨0, ?_, ?_, ?_⟩
    · intro post hpost
      exact ⟨vp_in_nI (n := p) hp (by decide), nm_r e (br_f (by decide) (br_f (by decide) (br_t rfl (⟨vp_in_nI (n := p) hp (by decide), by rw [e2]; exact sx_nmT h (br_f (by decide) hpost)⟩))))⟩
    · intro post hpost
      exact ⟨vp_in_nI (n := p) hp (by decide), nm_r e (sy_sort (Nat.le_of_lt hp) W1 (br_f (by decide) (br_f (by decide) (br_f (by decide) (br_t rfl (⟨vp_in_nI (n := p) hp (by decide), by rw [e2]; exact sy_nmT h (br_f (by decide) (br_f (by decide) (br_f (by decide) (br_f (by decide) (br_f (by decide) (br_f (by decide) (br_f (by decide) (br_f (by decide) (br_f (by decide) (sy_opF (by decide) (br_t rfl hpost)))))))))))⟩))))))⟩
    · exact fun _ => ⟨⟨by rw [hc]; decide, by rw [hc]; decide, by rw [hc]; decide⟩, (fun _ => h), (fun y => by rw [hc] at y; exact absurd y (by decide)), (fun y => absurd (hc.symm.trans y) (by decide)), (fun y => absurd (hc.symm.trans y) (by decide)), (fun y => absurd (hc.symm.trans y) (by decide)), (fun y => absurd (hc.symm.trans y) (by decide)), (fun y => absurd (hc.symm.trans y) (by decide)), (fun y => absurd (hc.symm.trans y) (by decide)), (fun y => absurd (hc.symm.trans y) (by decide)), (fun y => absurd (hc.symm.trans y) (by decide))⟩
  · refine ⟨2, ?_, ?_, ?_⟩
    · intro post hpost
      exact ⟨vp_in_nI (n := p) hp (by decide), nm_r e (br_f (by decide) (br_f (by decide) (br_t rfl (⟨vp_in_nI (n := p) hp (by decide), by rw [e2]; exact sx_nmF h (br_t rfl hpost)⟩))))⟩
    · intro post hpost
      exact ⟨vp_in_nI (n := p) hp (by decide), nm_r e (sy_sort (Nat.le_of_lt hp) W1 (br_f (by decide) (br_f (by decide) (br_f (by decide) (br_t rfl (⟨vp_in_nI (n := p) hp (by decide), by rw [e2]; exact sy_nmF h (br_t rfl hpost)⟩))))))⟩
    · exact fun y => absurd y (by decide)
theorem se_16 {p : Nat} (hp : p < 80) (h6 : (sk_R c p).length ≤ 6) (hL : sk_LA c ps pst psk (sk_R c p)) (hH : sk_HI c p (sk_R c p)) (W1 : ∀ q, q < p → (c q = 17 ∨ c q = 21) → sk_R c q ≠ []) (W2 : ∀ q, q < p → sk_cl (c q) → sk_R c q ≠ []) (hc : c p = 16) : ∃ e : Int32, (∀ post : Int32 → Prop, post e → wpX_errorInside post (xT, tr, ep, ind, vc, nI (sk_R c p).length, xD, xE, cur, tu, ca, c, a, nm, nv, ps, pst, psk, jm, cp, stk, em, ce, rp, ct, cm) (nI p)) ∧ (∀ post : Int32 → Prop, post e → wpY_inside post (yT, ytr, ep, yD, yE, lv, yt, c, a, stk, em, ce, po, yc, ye) (nI p)) ∧ (e = 0 → sk_Ok c a p) := by
  have e : c (nI p).toNatClampNeg = 16 := by rw [nI_clamp (n := p) (by omega)]; exact hc
  have e2 : a (nI p).toNatClampNeg = a p := by rw [nI_clamp (n := p) (by omega)]
  by_cases h : (sk_R c p).length = 6
  · refine ⟨5, ?_, ?_, ?_⟩
    · intro post hpost
      exact ⟨vp_in_nI (n := p) hp (by decide), nm_r e (br_f (by decide) (br_f (by decide) (br_f (by decide) (br_t rfl (br_t (by rw [h]; rfl) hpost)))))⟩
    · intro post hpost
      exact ⟨vp_in_nI (n := p) hp (by decide), nm_r e (sy_sort (Nat.le_of_lt hp) W1 (br_f (by decide) (br_f (by decide) (br_f (by decide) (br_f (by decide) (br_f (by decide) (br_f (by decide) (br_f (by decide) (br_f (by decide) (br_f (by decide) (br_f (by decide) (br_f (by decide) (br_f (by decide) (sy_opT (by decide) (br_f (by decide) (sy_openParts (Nat.le_of_lt hp) W2 (br_t (by rw [h]; rfl) hpost)))))))))))))))))⟩
    · exact fun y => absurd y (by decide)
  · refine ⟨0, ?_, ?_, ?_⟩
    · intro post hpost
      exact ⟨vp_in_nI (n := p) hp (by decide), nm_r e (br_f (by decide) (br_f (by decide) (br_f (by decide) (br_t rfl (br_f (fun y => h ((nI_eq (b := 6) (by omega) (by omega)).mp y)) hpost)))))⟩
    · intro post hpost
      exact ⟨vp_in_nI (n := p) hp (by decide), nm_r e (sy_sort (Nat.le_of_lt hp) W1 (br_f (by decide) (br_f (by decide) (br_f (by decide) (br_f (by decide) (br_f (by decide) (br_f (by decide) (br_f (by decide) (br_f (by decide) (br_f (by decide) (br_f (by decide) (br_f (by decide) (br_f (by decide) (sy_opT (by decide) (br_f (by decide) (sy_openParts (Nat.le_of_lt hp) W2 (br_f (fun y => h ((nI_eq (b := 6) (by omega) (by omega)).mp y)) hpost)))))))))))))))))⟩
    · exact fun _ => ⟨⟨by rw [hc]; decide, by rw [hc]; decide, by rw [hc]; decide⟩, (fun y => absurd (hc.symm.trans y) (by decide)), (fun _ => (by omega)), (fun y => absurd (hc.symm.trans y) (by decide)), (fun y => absurd (hc.symm.trans y) (by decide)), (fun y => absurd (hc.symm.trans y) (by decide)), (fun y => absurd (hc.symm.trans y) (by decide)), (fun y => absurd (hc.symm.trans y) (by decide)), (fun y => absurd (hc.symm.trans y) (by decide)), (fun y => absurd (hc.symm.trans y) (by decide)), (fun y => absurd (hc.symm.trans y) (by decide))⟩
theorem se_17 {p : Nat} (hp : p < 80) (h6 : (sk_R c p).length ≤ 6) (hL : sk_LA c ps pst psk (sk_R c p)) (hH : sk_HI c p (sk_R c p)) (W1 : ∀ q, q < p → (c q = 17 ∨ c q = 21) → sk_R c q ≠ []) (W2 : ∀ q, q < p → sk_cl (c q) → sk_R c q ≠ []) (hc : c p = 17) : ∃ e : Int32, (∀ post : Int32 → Prop, post e → wpX_errorInside post (xT, tr, ep, ind, vc, nI (sk_R c p).length, xD, xE, cur, tu, ca, c, a, nm, nv, ps, pst, psk, jm, cp, stk, em, ce, rp, ct, cm) (nI p)) ∧ (∀ post : Int32 → Prop, post e → wpY_inside post (yT, ytr, ep, yD, yE, lv, yt, c, a, stk, em, ce, po, yc, ye) (nI p)) ∧ (e = 0 → sk_Ok c a p) := by
  have e : c (nI p).toNatClampNeg = 17 := by rw [nI_clamp (n := p) (by omega)]; exact hc
  have e2 : a (nI p).toNatClampNeg = a p := by rw [nI_clamp (n := p) (by omega)]
  by_cases h : sk_hs c (sk_R c p) = 16
  · refine ⟨0, ?_, ?_, ?_⟩
    · intro post hpost
      exact ⟨vp_in_nI (n := p) hp (by decide), nm_r e (br_f (by decide) (br_f (by decide) (br_f (by decide) (br_f (by decide) (br_t rfl (sx_last h6 hL (br_f (by decide) (br_f (by decide) (br_t rfl (br_t h (br_f (by decide) hpost)))))))))))⟩
    · intro post hpost
      exact ⟨vp_in_nI (n := p) hp (by decide), nm_r e (sy_sort (Nat.le_of_lt hp) W1 (br_f (by decide) (br_f (by decide) (br_f (by decide) (br_f (by decide) (br_t rfl (br_t h (br_f (by decide) (br_f (by decide) (br_f (by decide) (br_f (by decide) (br_f (by decide) (br_f (by decide) (br_f (by decide) (sy_opF (by decide) (br_t rfl hpost))))))))))))))))⟩
    · exact fun _ => ⟨⟨by rw [hc]; decide, by rw [hc]; decide, by rw [hc]; decide⟩, (fun y => absurd (hc.symm.trans y) (by decide)), (fun y => by rw [hc] at y; exact absurd y (by decide)), (fun _ => h), (fun y => absurd (hc.symm.trans y) (by decide)), (fun y => absurd (hc.symm.trans y) (by decide)), (fun y => absurd (hc.symm.trans y) (by decide)), (fun y => absurd (hc.symm.trans y) (by decide)), (fun y => absurd (hc.symm.trans y) (by decide)), (fun y => absurd (hc.symm.trans y) (by decide)), (fun y => absurd (hc.symm.trans y) (by decide))⟩
  · refine ⟨4, ?_, ?_, ?_⟩
    · intro post hpost
      exact ⟨vp_in_nI (n := p) hp (by decide), nm_r e (br_f (by decide) (br_f (by decide) (br_f (by decide) (br_f (by decide) (br_t rfl (sx_last h6 hL (br_f (by decide) (br_f (by decide) (br_t rfl (br_f h (br_t rfl hpost)))))))))))⟩
    · intro post hpost
      exact ⟨vp_in_nI (n := p) hp (by decide), nm_r e (sy_sort (Nat.le_of_lt hp) W1 (br_f (by decide) (br_f (by decide) (br_f (by decide) (br_f (by decide) (br_t rfl (br_f h hpost)))))))⟩
    · exact fun y => absurd y (by decide)
theorem se_18 {p : Nat} (hp : p < 80) (h6 : (sk_R c p).length ≤ 6) (hL : sk_LA c ps pst psk (sk_R c p)) (hH : sk_HI c p (sk_R c p)) (W1 : ∀ q, q < p → (c q = 17 ∨ c q = 21) → sk_R c q ≠ []) (W2 : ∀ q, q < p → sk_cl (c q) → sk_R c q ≠ []) (hc : c p = 18) : ∃ e : Int32, (∀ post : Int32 → Prop, post e → wpX_errorInside post (xT, tr, ep, ind, vc, nI (sk_R c p).length, xD, xE, cur, tu, ca, c, a, nm, nv, ps, pst, psk, jm, cp, stk, em, ce, rp, ct, cm) (nI p)) ∧ (∀ post : Int32 → Prop, post e → wpY_inside post (yT, ytr, ep, yD, yE, lv, yt, c, a, stk, em, ce, po, yc, ye) (nI p)) ∧ (e = 0 → sk_Ok c a p) := by
  have e : c (nI p).toNatClampNeg = 18 := by rw [nI_clamp (n := p) (by omega)]; exact hc
  have e2 : a (nI p).toNatClampNeg = a p := by rw [nI_clamp (n := p) (by omega)]
  by_cases h : sk_hs c (sk_R c p) = 16
  · refine ⟨0, ?_, ?_, ?_⟩
    · intro post hpost
      exact ⟨vp_in_nI (n := p) hp (by decide), nm_r e (br_f (by decide) (br_f (by decide) (br_f (by decide) (br_f (by decide) (br_f (by decide) (br_t rfl (sx_last h6 hL (br_f (by decide) (br_f (by decide) (br_f (by decide) (br_t rfl (br_t h (br_f (by decide) hpost)))))))))))))⟩
    · intro post hpost
      exact ⟨vp_in_nI (n := p) hp (by decide), nm_r e (sy_sort (Nat.le_of_lt hp) W1 (br_f (by decide) (br_f (by decide) (br_f (by decide) (br_f (by decide) (br_f (by decide) (br_t rfl (br_t h (br_f (by decide) (br_f (by decide) (br_f (by decide) (br_f (by decide) (br_f (by decide) (br_f (by decide) (sy_opF (by decide) (br_t rfl hpost))))))))))))))))⟩
    · exact fun _ => ⟨⟨by rw [hc]; decide, by rw [hc]; decide, by rw [hc]; decide⟩, (fun y => absurd (hc.symm.trans y) (by decide)), (fun y => by rw [hc] at y; exact absurd y (by decide)), (fun y => absurd (hc.symm.trans y) (by decide)), (fun _ => Or.inl h), (fun y => absurd (hc.symm.trans y) (by decide)), (fun y => absurd (hc.symm.trans y) (by decide)), (fun y => absurd (hc.symm.trans y) (by decide)), (fun y => absurd (hc.symm.trans y) (by decide)), (fun y => absurd (hc.symm.trans y) (by decide)), (fun y => absurd (hc.symm.trans y) (by decide))⟩
  · by_cases h2 : sk_hs c (sk_R c p) = 17
    · refine ⟨0, ?_, ?_, ?_⟩
      · intro post hpost
        exact ⟨vp_in_nI (n := p) hp (by decide), nm_r e (br_f (by decide) (br_f (by decide) (br_f (by decide) (br_f (by decide) (br_f (by decide) (br_t rfl (sx_last h6 hL (br_f (by decide) (br_f (by decide) (br_f (by decide) (br_t rfl (br_f h (br_t h2 (br_f (by decide) hpost))))))))))))))⟩
      · intro post hpost
        exact ⟨vp_in_nI (n := p) hp (by decide), nm_r e (sy_sort (Nat.le_of_lt hp) W1 (br_f (by decide) (br_f (by decide) (br_f (by decide) (br_f (by decide) (br_f (by decide) (br_t rfl (br_f h (br_t h2 (br_f (by decide) (br_f (by decide) (br_f (by decide) (br_f (by decide) (br_f (by decide) (br_f (by decide) (sy_opF (by decide) (br_t rfl hpost)))))))))))))))))⟩
      · exact fun _ => ⟨⟨by rw [hc]; decide, by rw [hc]; decide, by rw [hc]; decide⟩, (fun y => absurd (hc.symm.trans y) (by decide)), (fun y => by rw [hc] at y; exact absurd y (by decide)), (fun y => absurd (hc.symm.trans y) (by decide)), (fun _ => Or.inr h2), (fun y => absurd (hc.symm.trans y) (by decide)), (fun y => absurd (hc.symm.trans y) (by decide)), (fun y => absurd (hc.symm.trans y) (by decide)), (fun y => absurd (hc.symm.trans y) (by decide)), (fun y => absurd (hc.symm.trans y) (by decide)), (fun y => absurd (hc.symm.trans y) (by decide))⟩
    · refine ⟨4, ?_, ?_, ?_⟩
      · intro post hpost
        exact ⟨vp_in_nI (n := p) hp (by decide), nm_r e (br_f (by decide) (br_f (by decide) (br_f (by decide) (br_f (by decide) (br_f (by decide) (br_t rfl (sx_last h6 hL (br_f (by decide) (br_f (by decide) (br_f (by decide) (br_t rfl (br_f h (br_f h2 (br_t rfl hpost))))))))))))))⟩
      · intro post hpost
        exact ⟨vp_in_nI (n := p) hp (by decide), nm_r e (sy_sort (Nat.le_of_lt hp) W1 (br_f (by decide) (br_f (by decide) (br_f (by decide) (br_f (by decide) (br_f (by decide) (br_t rfl (br_f h (br_f h2 hpost)))))))))⟩
      · exact fun y => absurd y (by decide)
theorem se_19 {p : Nat} (hp : p < 80) (h6 : (sk_R c p).length ≤ 6) (hL : sk_LA c ps pst psk (sk_R c p)) (hH : sk_HI c p (sk_R c p)) (W1 : ∀ q, q < p → (c q = 17 ∨ c q = 21) → sk_R c q ≠ []) (W2 : ∀ q, q < p → sk_cl (c q) → sk_R c q ≠ []) (hc : c p = 19) : ∃ e : Int32, (∀ post : Int32 → Prop, post e → wpX_errorInside post (xT, tr, ep, ind, vc, nI (sk_R c p).length, xD, xE, cur, tu, ca, c, a, nm, nv, ps, pst, psk, jm, cp, stk, em, ce, rp, ct, cm) (nI p)) ∧ (∀ post : Int32 → Prop, post e → wpY_inside post (yT, ytr, ep, yD, yE, lv, yt, c, a, stk, em, ce, po, yc, ye) (nI p)) ∧ (e = 0 → sk_Ok c a p) := by
  have e : c (nI p).toNatClampNeg = 19 := by rw [nI_clamp (n := p) (by omega)]; exact hc
  have e2 : a (nI p).toNatClampNeg = a p := by rw [nI_clamp (n := p) (by omega)]
  by_cases h : (sk_R c p).length = 6
  · refine ⟨5, ?_, ?_, ?_⟩
    · intro post hpost
      exact ⟨vp_in_nI (n := p) hp (by decide), nm_r e (br_f (by decide) (br_f (by decide) (br_f (by decide) (br_f (by decide) (br_f (by decide) (br_f (by decide) (br_t rfl (br_t (by rw [h]; rfl) hpost))))))))⟩
    · intro post hpost
      exact ⟨vp_in_nI (n := p) hp (by decide), nm_r e (sy_sort (Nat.le_of_lt hp) W1 (br_f (by decide) (br_f (by decide) (br_f (by decide) (br_f (by decide) (br_f (by decide) (br_f (by decide) (br_f (by decide) (br_f (by decide) (br_f (by decide) (br_f (by decide) (br_f (by decide) (br_f (by decide) (sy_opT (by decide) (br_f (by decide) (sy_openParts (Nat.le_of_lt hp) W2 (br_t (by rw [h]; rfl) hpost)))))))))))))))))⟩
    · exact fun y => absurd y (by decide)
  · refine ⟨0, ?_, ?_, ?_⟩
    · intro post hpost
      exact ⟨vp_in_nI (n := p) hp (by decide), nm_r e (br_f (by decide) (br_f (by decide) (br_f (by decide) (br_f (by decide) (br_f (by decide) (br_f (by decide) (br_t rfl (br_f (fun y => h ((nI_eq (b := 6) (by omega) (by omega)).mp y)) hpost))))))))⟩
    · intro post hpost
      exact ⟨vp_in_nI (n := p) hp (by decide), nm_r e (sy_sort (Nat.le_of_lt hp) W1 (br_f (by decide) (br_f (by decide) (br_f (by decide) (br_f (by decide) (br_f (by decide) (br_f (by decide) (br_f (by decide) (br_f (by decide) (br_f (by decide) (br_f (by decide) (br_f (by decide) (br_f (by decide) (sy_opT (by decide) (br_f (by decide) (sy_openParts (Nat.le_of_lt hp) W2 (br_f (fun y => h ((nI_eq (b := 6) (by omega) (by omega)).mp y)) hpost)))))))))))))))))⟩
    · exact fun _ => ⟨⟨by rw [hc]; decide, by rw [hc]; decide, by rw [hc]; decide⟩, (fun y => absurd (hc.symm.trans y) (by decide)), (fun _ => (by omega)), (fun y => absurd (hc.symm.trans y) (by decide)), (fun y => absurd (hc.symm.trans y) (by decide)), (fun y => absurd (hc.symm.trans y) (by decide)), (fun y => absurd (hc.symm.trans y) (by decide)), (fun y => absurd (hc.symm.trans y) (by decide)), (fun y => absurd (hc.symm.trans y) (by decide)), (fun y => absurd (hc.symm.trans y) (by decide)), (fun y => absurd (hc.symm.trans y) (by decide))⟩
theorem se_20 {p : Nat} (hp : p < 80) (h6 : (sk_R c p).length ≤ 6) (hL : sk_LA c ps pst psk (sk_R c p)) (hH : sk_HI c p (sk_R c p)) (W1 : ∀ q, q < p → (c q = 17 ∨ c q = 21) → sk_R c q ≠ []) (W2 : ∀ q, q < p → sk_cl (c q) → sk_R c q ≠ []) (hc : c p = 20) : ∃ e : Int32, (∀ post : Int32 → Prop, post e → wpX_errorInside post (xT, tr, ep, ind, vc, nI (sk_R c p).length, xD, xE, cur, tu, ca, c, a, nm, nv, ps, pst, psk, jm, cp, stk, em, ce, rp, ct, cm) (nI p)) ∧ (∀ post : Int32 → Prop, post e → wpY_inside post (yT, ytr, ep, yD, yE, lv, yt, c, a, stk, em, ce, po, yc, ye) (nI p)) ∧ (e = 0 → sk_Ok c a p) := by
  have e : c (nI p).toNatClampNeg = 20 := by rw [nI_clamp (n := p) (by omega)]; exact hc
  have e2 : a (nI p).toNatClampNeg = a p := by rw [nI_clamp (n := p) (by omega)]
  by_cases h : sk_hs c (sk_R c p) = 19
  · refine ⟨0, ?_, ?_, ?_⟩
    · intro post hpost
      exact ⟨vp_in_nI (n := p) hp (by decide), nm_r e (br_f (by decide) (br_f (by decide) (br_f (by decide) (br_f (by decide) (br_f (by decide) (br_f (by decide) (br_f (by decide) (br_t rfl (sx_last h6 hL (br_f (by decide) (br_f (by decide) (br_f (by decide) (br_f (by decide) (br_f (by decide) (br_t rfl (br_t h (br_f (by decide) hpost)))))))))))))))))⟩
    · intro post hpost
      exact ⟨vp_in_nI (n := p) hp (by decide), nm_r e (sy_sort (Nat.le_of_lt hp) W1 (br_f (by decide) (br_f (by decide) (br_f (by decide) (br_f (by decide) (br_f (by decide) (br_f (by decide) (br_t rfl (br_t h (br_f (by decide) (br_f (by decide) (br_f (by decide) (br_f (by decide) (sy_opF (by decide) (br_t rfl hpost)))))))))))))))⟩
    · exact fun _ => ⟨⟨by rw [hc]; decide, by rw [hc]; decide, by rw [hc]; decide⟩, (fun y => absurd (hc.symm.trans y) (by decide)), (fun y => by rw [hc] at y; exact absurd y (by decide)), (fun y => absurd (hc.symm.trans y) (by decide)), (fun y => absurd (hc.symm.trans y) (by decide)), (fun _ => h), (fun y => absurd (hc.symm.trans y) (by decide)), (fun y => absurd (hc.symm.trans y) (by decide)), (fun y => absurd (hc.symm.trans y) (by decide)), (fun y => absurd (hc.symm.trans y) (by decide)), (fun y => absurd (hc.symm.trans y) (by decide))⟩
  · refine ⟨4, ?_, ?_, ?_⟩
    · intro post hpost
      exact ⟨vp_in_nI (n := p) hp (by decide), nm_r e (br_f (by decide) (br_f (by decide) (br_f (by decide) (br_f (by decide) (br_f (by decide) (br_f (by decide) (br_f (by decide) (br_t rfl (sx_last h6 hL (br_f (by decide) (br_f (by decide) (br_f (by decide) (br_f (by decide) (br_f (by decide) (br_t rfl (br_f h (br_t rfl hpost)))))))))))))))))⟩
    · intro post hpost
      exact ⟨vp_in_nI (n := p) hp (by decide), nm_r e (sy_sort (Nat.le_of_lt hp) W1 (br_f (by decide) (br_f (by decide) (br_f (by decide) (br_f (by decide) (br_f (by decide) (br_f (by decide) (br_t rfl (br_f h hpost)))))))))⟩
    · exact fun y => absurd y (by decide)
theorem se_21 {p : Nat} (hp : p < 80) (h6 : (sk_R c p).length ≤ 6) (hL : sk_LA c ps pst psk (sk_R c p)) (hH : sk_HI c p (sk_R c p)) (W1 : ∀ q, q < p → (c q = 17 ∨ c q = 21) → sk_R c q ≠ []) (W2 : ∀ q, q < p → sk_cl (c q) → sk_R c q ≠ []) (hc : c p = 21) : ∃ e : Int32, (∀ post : Int32 → Prop, post e → wpX_errorInside post (xT, tr, ep, ind, vc, nI (sk_R c p).length, xD, xE, cur, tu, ca, c, a, nm, nv, ps, pst, psk, jm, cp, stk, em, ce, rp, ct, cm) (nI p)) ∧ (∀ post : Int32 → Prop, post e → wpY_inside post (yT, ytr, ep, yD, yE, lv, yt, c, a, stk, em, ce, po, yc, ye) (nI p)) ∧ (e = 0 → sk_Ok c a p) := by
  have e : c (nI p).toNatClampNeg = 21 := by rw [nI_clamp (n := p) (by omega)]; exact hc
  have e2 : a (nI p).toNatClampNeg = a p := by rw [nI_clamp (n := p) (by omega)]
  by_cases h : sk_hs c (sk_R c p) = 19
  · refine ⟨0, ?_, ?_, ?_⟩
    · intro post hpost
      exact ⟨vp_in_nI (n := p) hp (by decide), nm_r e (br_f (by decide) (br_f (by decide) (br_f (by decide) (br_f (by decide) (br_f (by decide) (br_f (by decide) (br_f (by decide) (br_f (by decide) (br_t rfl (sx_last h6 hL (br_f (by decide) (br_f (by decide) (br_f (by decide) (br_f (by decide) (br_f (by decide) (br_f (by decide) (br_t rfl (br_t h (br_f (by decide) hpost)))))))))))))))))))⟩
    · intro post hpost
      exact ⟨vp_in_nI (n := p) hp (by decide), nm_r e (sy_sort (Nat.le_of_lt hp) W1 (br_f (by decide) (br_f (by decide) (br_f (by decide) (br_f (by decide) (br_f (by decide) (br_f (by decide) (br_f (by decide) (br_t rfl (br_t h (br_f (by decide) (br_f (by decide) (br_f (by decide) (br_f (by decide) (sy_opF (by decide) (br_t rfl hpost))))))))))))))))⟩
    · exact fun _ => ⟨⟨by rw [hc]; decide, by rw [hc]; decide, by rw [hc]; decide⟩, (fun y => absurd (hc.symm.trans y) (by decide)), (fun y => by rw [hc] at y; exact absurd y (by decide)), (fun y => absurd (hc.symm.trans y) (by decide)), (fun y => absurd (hc.symm.trans y) (by decide)), (fun y => absurd (hc.symm.trans y) (by decide)), (fun _ => h), (fun y => absurd (hc.symm.trans y) (by decide)), (fun y => absurd (hc.symm.trans y) (by decide)), (fun y => absurd (hc.symm.trans y) (by decide)), (fun y => absurd (hc.symm.trans y) (by decide))⟩
  · refine ⟨4, ?_, ?_, ?_⟩
    · intro post hpost
      exact ⟨vp_in_nI (n := p) hp (by decide), nm_r e (br_f (by decide) (br_f (by decide) (br_f (by decide) (br_f (by decide) (br_f (by decide) (br_f (by decide) (br_f (by decide) (br_f (by decide) (br_t rfl (sx_last h6 hL (br_f (by decide) (br_f (by decide) (br_f (by decide) (br_f (by decide) (br_f (by decide) (br_f (by decide) (br_t rfl (br_f h (br_t rfl hpost)))))))))))))))))))⟩
    · intro post hpost
      exact ⟨vp_in_nI (n := p) hp (by decide), nm_r e (sy_sort (Nat.le_of_lt hp) W1 (br_f (by decide) (br_f (by decide) (br_f (by decide) (br_f (by decide) (br_f (by decide) (br_f (by decide) (br_f (by decide) (br_t rfl (br_f h hpost))))))))))⟩
    · exact fun y => absurd y (by decide)
theorem se_22 {p : Nat} (hp : p < 80) (h6 : (sk_R c p).length ≤ 6) (hL : sk_LA c ps pst psk (sk_R c p)) (hH : sk_HI c p (sk_R c p)) (W1 : ∀ q, q < p → (c q = 17 ∨ c q = 21) → sk_R c q ≠ []) (W2 : ∀ q, q < p → sk_cl (c q) → sk_R c q ≠ []) (hc : c p = 22) : ∃ e : Int32, (∀ post : Int32 → Prop, post e → wpX_errorInside post (xT, tr, ep, ind, vc, nI (sk_R c p).length, xD, xE, cur, tu, ca, c, a, nm, nv, ps, pst, psk, jm, cp, stk, em, ce, rp, ct, cm) (nI p)) ∧ (∀ post : Int32 → Prop, post e → wpY_inside post (yT, ytr, ep, yD, yE, lv, yt, c, a, stk, em, ce, po, yc, ye) (nI p)) ∧ (e = 0 → sk_Ok c a p) := by
  have e : c (nI p).toNatClampNeg = 22 := by rw [nI_clamp (n := p) (by omega)]; exact hc
  have e2 : a (nI p).toNatClampNeg = a p := by rw [nI_clamp (n := p) (by omega)]
  by_cases h : sk_hs c (sk_R c p) = 21
  · refine ⟨0, ?_, ?_, ?_⟩
    · intro post hpost
      exact ⟨vp_in_nI (n := p) hp (by decide), nm_r e (br_f (by decide) (br_f (by decide) (br_f (by decide) (br_f (by decide) (br_f (by decide) (br_f (by decide) (br_f (by decide) (br_f (by decide) (br_f (by decide) (br_t rfl (sx_last h6 hL (br_f (by decide) (br_f (by decide) (br_f (by decide) (br_f (by decide) (br_f (by decide) (br_f (by decide) (br_f (by decide) (br_t rfl (br_t h (br_f (by decide) hpost)))))))))))))))))))))⟩
    · intro post hpost
      exact ⟨vp_in_nI (n := p) hp (by decide), nm_r e (sy_sort (Nat.le_of_lt hp) W1 (br_f (by decide) (br_f (by decide) (br_f (by decide) (br_f (by decide) (br_f (by decide) (br_f (by decide) (br_f (by decide) (br_f (by decide) (br_t rfl (br_t h (br_f (by decide) (br_f (by decide) (br_f (by decide) (sy_opF (by decide) (br_t rfl hpost))))))))))))))))⟩
    · exact fun _ => ⟨⟨by rw [hc]; decide, by rw [hc]; decide, by rw [hc]; decide⟩, (fun y => absurd (hc.symm.trans y) (by decide)), (fun y => by rw [hc] at y; exact absurd y (by decide)), (fun y => absurd (hc.symm.trans y) (by decide)), (fun y => absurd (hc.symm.trans y) (by decide)), (fun y => absurd (hc.symm.trans y) (by decide)), (fun y => absurd (hc.symm.trans y) (by decide)), (fun _ => h), (fun y => absurd (hc.symm.trans y) (by decide)), (fun y => absurd (hc.symm.trans y) (by decide)), (fun y => absurd (hc.symm.trans y) (by decide))⟩
  · refine ⟨4, ?_, ?_, ?_⟩
    · intro post hpost
      exact ⟨vp_in_nI (n := p) hp (by decide), nm_r e (br_f (by decide) (br_f (by decide) (br_f (by decide) (br_f (by decide) (br_f (by decide) (br_f (by decide) (br_f (by decide) (br_f (by decide) (br_f (by decide) (br_t rfl (sx_last h6 hL (br_f (by decide) (br_f (by decide) (br_f (by decide) (br_f (by decide) (br_f (by decide) (br_f (by decide) (br_f (by decide) (br_t rfl (br_f h (br_t rfl hpost)))))))))))))))))))))⟩
    · intro post hpost
      exact ⟨vp_in_nI (n := p) hp (by decide), nm_r e (sy_sort (Nat.le_of_lt hp) W1 (br_f (by decide) (br_f (by decide) (br_f (by decide) (br_f (by decide) (br_f (by decide) (br_f (by decide) (br_f (by decide) (br_f (by decide) (br_t rfl (br_f h hpost)))))))))))⟩
    · exact fun y => absurd y (by decide)
theorem se_23 {p : Nat} (hp : p < 80) (h6 : (sk_R c p).length ≤ 6) (hL : sk_LA c ps pst psk (sk_R c p)) (hH : sk_HI c p (sk_R c p)) (W1 : ∀ q, q < p → (c q = 17 ∨ c q = 21) → sk_R c q ≠ []) (W2 : ∀ q, q < p → sk_cl (c q) → sk_R c q ≠ []) (hc : c p = 23) : ∃ e : Int32, (∀ post : Int32 → Prop, post e → wpX_errorInside post (xT, tr, ep, ind, vc, nI (sk_R c p).length, xD, xE, cur, tu, ca, c, a, nm, nv, ps, pst, psk, jm, cp, stk, em, ce, rp, ct, cm) (nI p)) ∧ (∀ post : Int32 → Prop, post e → wpY_inside post (yT, ytr, ep, yD, yE, lv, yt, c, a, stk, em, ce, po, yc, ye) (nI p)) ∧ (e = 0 → sk_Ok c a p) := by
  have e : c (nI p).toNatClampNeg = 23 := by rw [nI_clamp (n := p) (by omega)]; exact hc
  have e2 : a (nI p).toNatClampNeg = a p := by rw [nI_clamp (n := p) (by omega)]
  by_cases h : (sk_R c p).length = 6
  · refine ⟨5, ?_, ?_, ?_⟩
    · intro post hpost
      exact ⟨vp_in_nI (n := p) hp (by decide), nm_r e (br_f (by decide) (br_f (by decide) (br_f (by decide) (br_f (by decide) (br_f (by decide) (br_f (by decide) (br_f (by decide) (br_f (by decide) (br_f (by decide) (br_f (by decide) (br_t rfl (br_t (by rw [h]; rfl) hpost))))))))))))⟩
    · intro post hpost
      exact ⟨vp_in_nI (n := p) hp (by decide), nm_r e (sy_sort (Nat.le_of_lt hp) W1 (br_f (by decide) (br_f (by decide) (br_f (by decide) (br_f (by decide) (br_f (by decide) (br_f (by decide) (br_f (by decide) (br_f (by decide) (br_f (by decide) (br_f (by decide) (br_f (by decide) (br_f (by decide) (sy_opT (by decide) (br_f (by decide) (sy_openParts (Nat.le_of_lt hp) W2 (br_t (by rw [h]; rfl) hpost)))))))))))))))))⟩
    · exact fun y => absurd y (by decide)
  · refine ⟨0, ?_, ?_, ?_⟩
    · intro post hpost
      exact ⟨vp_in_nI (n := p) hp (by decide), nm_r e (br_f (by decide) (br_f (by decide) (br_f (by decide) (br_f (by decide) (br_f (by decide) (br_f (by decide) (br_f (by decide) (br_f (by decide) (br_f (by decide) (br_f (by decide) (br_t rfl (br_f (fun y => h ((nI_eq (b := 6) (by omega) (by omega)).mp y)) hpost))))))))))))⟩
    · intro post hpost
      exact ⟨vp_in_nI (n := p) hp (by decide), nm_r e (sy_sort (Nat.le_of_lt hp) W1 (br_f (by decide) (br_f (by decide) (br_f (by decide) (br_f (by decide) (br_f (by decide) (br_f (by decide) (br_f (by decide) (br_f (by decide) (br_f (by decide) (br_f (by decide) (br_f (by decide) (br_f (by decide) (sy_opT (by decide) (br_f (by decide) (sy_openParts (Nat.le_of_lt hp) W2 (br_f (fun y => h ((nI_eq (b := 6) (by omega) (by omega)).mp y)) hpost)))))))))))))))))⟩
    · exact fun _ => ⟨⟨by rw [hc]; decide, by rw [hc]; decide, by rw [hc]; decide⟩, (fun y => absurd (hc.symm.trans y) (by decide)), (fun _ => (by omega)), (fun y => absurd (hc.symm.trans y) (by decide)), (fun y => absurd (hc.symm.trans y) (by decide)), (fun y => absurd (hc.symm.trans y) (by decide)), (fun y => absurd (hc.symm.trans y) (by decide)), (fun y => absurd (hc.symm.trans y) (by decide)), (fun y => absurd (hc.symm.trans y) (by decide)), (fun y => absurd (hc.symm.trans y) (by decide)), (fun y => absurd (hc.symm.trans y) (by decide))⟩
theorem se_24 {p : Nat} (hp : p < 80) (h6 : (sk_R c p).length ≤ 6) (hL : sk_LA c ps pst psk (sk_R c p)) (hH : sk_HI c p (sk_R c p)) (W1 : ∀ q, q < p → (c q = 17 ∨ c q = 21) → sk_R c q ≠ []) (W2 : ∀ q, q < p → sk_cl (c q) → sk_R c q ≠ []) (hc : c p = 24) : ∃ e : Int32, (∀ post : Int32 → Prop, post e → wpX_errorInside post (xT, tr, ep, ind, vc, nI (sk_R c p).length, xD, xE, cur, tu, ca, c, a, nm, nv, ps, pst, psk, jm, cp, stk, em, ce, rp, ct, cm) (nI p)) ∧ (∀ post : Int32 → Prop, post e → wpY_inside post (yT, ytr, ep, yD, yE, lv, yt, c, a, stk, em, ce, po, yc, ye) (nI p)) ∧ (e = 0 → sk_Ok c a p) := by
  have e : c (nI p).toNatClampNeg = 24 := by rw [nI_clamp (n := p) (by omega)]; exact hc
  have e2 : a (nI p).toNatClampNeg = a p := by rw [nI_clamp (n := p) (by omega)]
  by_cases h : sk_hs c (sk_R c p) = 23
  · refine ⟨0, ?_, ?_, ?_⟩
    · intro post hpost
      exact ⟨vp_in_nI (n := p) hp (by decide), nm_r e (br_f (by decide) (br_f (by decide) (br_f (by decide) (br_f (by decide) (br_f (by decide) (br_f (by decide) (br_f (by decide) (br_f (by decide) (br_f (by decide) (br_f (by decide) (br_f (by decide) (br_t rfl (sx_last h6 hL (br_f (by decide) (br_f (by decide) (br_f (by decide) (br_f (by decide) (br_f (by decide) (br_f (by decide) (br_f (by decide) (br_f (by decide) (br_f (by decide) (br_t rfl (br_t h (br_f (by decide) hpost)))))))))))))))))))))))))⟩
    · intro post hpost
      exact ⟨vp_in_nI (n := p) hp (by decide), nm_r e (sy_sort (Nat.le_of_lt hp) W1 (br_f (by decide) (br_f (by decide) (br_f (by decide) (br_f (by decide) (br_f (by decide) (br_f (by decide) (br_f (by decide) (br_f (by decide) (br_f (by decide) (br_t rfl (br_t h (br_f (by decide) (br_f (by decide) (sy_opF (by decide) (br_t rfl hpost))))))))))))))))⟩
    · exact fun _ => ⟨⟨by rw [hc]; decide, by rw [hc]; decide, by rw [hc]; decide⟩, (fun y => absurd (hc.symm.trans y) (by decide)), (fun y => by rw [hc] at y; exact absurd y (by decide)), (fun y => absurd (hc.symm.trans y) (by decide)), (fun y => absurd (hc.symm.trans y) (by decide)), (fun y => absurd (hc.symm.trans y) (by decide)), (fun y => absurd (hc.symm.trans y) (by decide)), (fun y => absurd (hc.symm.trans y) (by decide)), (fun _ => h), (fun y => absurd (hc.symm.trans y) (by decide)), (fun y => absurd (hc.symm.trans y) (by decide))⟩
  · refine ⟨4, ?_, ?_, ?_⟩
    · intro post hpost
      exact ⟨vp_in_nI (n := p) hp (by decide), nm_r e (br_f (by decide) (br_f (by decide) (br_f (by decide) (br_f (by decide) (br_f (by decide) (br_f (by decide) (br_f (by decide) (br_f (by decide) (br_f (by decide) (br_f (by decide) (br_f (by decide) (br_t rfl (sx_last h6 hL (br_f (by decide) (br_f (by decide) (br_f (by decide) (br_f (by decide) (br_f (by decide) (br_f (by decide) (br_f (by decide) (br_f (by decide) (br_f (by decide) (br_t rfl (br_f h (br_t rfl hpost)))))))))))))))))))))))))⟩
    · intro post hpost
      exact ⟨vp_in_nI (n := p) hp (by decide), nm_r e (sy_sort (Nat.le_of_lt hp) W1 (br_f (by decide) (br_f (by decide) (br_f (by decide) (br_f (by decide) (br_f (by decide) (br_f (by decide) (br_f (by decide) (br_f (by decide) (br_f (by decide) (br_t rfl (br_f h hpost))))))))))))⟩
    · exact fun y => absurd y (by decide)
theorem se_25 {p : Nat} (hp : p < 80) (h6 : (sk_R c p).length ≤ 6) (hL : sk_LA c ps pst psk (sk_R c p)) (hH : sk_HI c p (sk_R c p)) (W1 : ∀ q, q < p → (c q = 17 ∨ c q = 21) → sk_R c q ≠ []) (W2 : ∀ q, q < p → sk_cl (c q) → sk_R c q ≠ []) (hc : c p = 25) : ∃ e : Int32, (∀ post : Int32 → Prop, post e → wpX_errorInside post (xT, tr, ep, ind, vc, nI (sk_R c p).length, xD, xE, cur, tu, ca, c, a, nm, nv, ps, pst, psk, jm, cp, stk, em, ce, rp, ct, cm) (nI p)) ∧ (∀ post : Int32 → Prop, post e → wpY_inside post (yT, ytr, ep, yD, yE, lv, yt, c, a, stk, em, ce, po, yc, ye) (nI p)) ∧ (e = 0 → sk_Ok c a p) := by
  have e : c (nI p).toNatClampNeg = 25 := by rw [nI_clamp (n := p) (by omega)]; exact hc
  have e2 : a (nI p).toNatClampNeg = a p := by rw [nI_clamp (n := p) (by omega)]
  rcases sk_tmS hH with ⟨h1, h2, h3⟩ | ⟨q, k, t, h1, h2, h3, h4, h5, h5b, h5c⟩
  · refine ⟨4, ?_, ?_, ?_⟩
    · intro post hpost
      exact ⟨vp_in_nI (n := p) hp (by decide), nm_r e (br_f (by decide) (br_f (by decide) (br_f (by decide) (br_f (by decide) (br_f (by decide) (br_f (by decide) (br_f (by decide) (br_f (by decide) (br_f (by decide) (br_f (by decide) (br_f (by decide) (br_f (by decide) (br_t rfl (sx_last h6 hL (br_f (by decide) (br_f (by decide) (br_f (by decide) (br_f (by decide) (br_f (by decide) (br_f (by decide) (br_f (by decide) (br_f (by decide) (br_f (by decide) (br_f (by decide) (br_t rfl (sx_inner h6 hL (br_t h2 (br_t rfl hpost))))))))))))))))))))))))))))⟩
    · intro post hpost
      exact ⟨vp_in_nI (n := p) hp (by decide), nm_r e (sy_sort (Nat.le_of_lt hp) W1 (br_f (by decide) (br_f (by decide) (br_f (by decide) (br_f (by decide) (br_f (by decide) (br_f (by decide) (br_f (by decide) (br_f (by decide) (br_f (by decide) (br_f (by decide) (br_t rfl (sy_around (Nat.le_of_lt hp) (by rw [h3]; exact br_t (by decide) hpost))))))))))))))⟩
    · exact fun y => absurd y (by decide)
  · have hq : q < 80 := by
      have := sk_HIlt hH h4
      omega
    refine ⟨0, ?_, ?_, ?_⟩
    · intro post hpost
      exact ⟨vp_in_nI (n := p) hp (by decide), nm_r e (br_f (by decide) (br_f (by decide) (br_f (by decide) (br_f (by decide) (br_f (by decide) (br_f (by decide) (br_f (by decide) (br_f (by decide) (br_f (by decide) (br_f (by decide) (br_f (by decide) (br_f (by decide) (br_t rfl (sx_last h6 hL (br_f (by decide) (br_f (by decide) (br_f (by decide) (br_f (by decide) (br_f (by decide) (br_f (by decide) (br_f (by decide) (br_f (by decide) (br_f (by decide) (br_f (by decide) (br_t rfl (sx_inner h6 hL (br_f (by rw [h2]; exact sk_nm1 (by omega)) (br_f (by decide) hpost))))))))))))))))))))))))))))⟩
    · intro post hpost
      exact ⟨vp_in_nI (n := p) hp (by decide), nm_r e (sy_sort (Nat.le_of_lt hp) W1 (br_f (by decide) (br_f (by decide) (br_f (by decide) (br_f (by decide) (br_f (by decide) (br_f (by decide) (br_f (by decide) (br_f (by decide) (br_f (by decide) (br_f (by decide) (br_t rfl (sy_around (Nat.le_of_lt hp) (by rw [h3]; exact br_f (nI_pos (by omega)) (br_f (by decide) (sy_opF (by decide) (br_t rfl hpost)))))))))))))))))⟩
    · exact fun _ => ⟨⟨by rw [hc]; decide, by rw [hc]; decide, by rw [hc]; decide⟩, (fun y => absurd (hc.symm.trans y) (by decide)), (fun y => by rw [hc] at y; exact absurd y (by decide)), (fun y => absurd (hc.symm.trans y) (by decide)), (fun y => absurd (hc.symm.trans y) (by decide)), (fun y => absurd (hc.symm.trans y) (by decide)), (fun y => absurd (hc.symm.trans y) (by decide)), (fun y => absurd (hc.symm.trans y) (by decide)), (fun y => absurd (hc.symm.trans y) (by decide)), (fun _ => (by rw [h1]; exact fun y => by cases y)), (fun y => absurd (hc.symm.trans y) (by decide))⟩
theorem se_27 {p : Nat} (hp : p < 80) (h6 : (sk_R c p).length ≤ 6) (hL : sk_LA c ps pst psk (sk_R c p)) (hH : sk_HI c p (sk_R c p)) (W1 : ∀ q, q < p → (c q = 17 ∨ c q = 21) → sk_R c q ≠ []) (W2 : ∀ q, q < p → sk_cl (c q) → sk_R c q ≠ []) (hc : c p = 27) : ∃ e : Int32, (∀ post : Int32 → Prop, post e → wpX_errorInside post (xT, tr, ep, ind, vc, nI (sk_R c p).length, xD, xE, cur, tu, ca, c, a, nm, nv, ps, pst, psk, jm, cp, stk, em, ce, rp, ct, cm) (nI p)) ∧ (∀ post : Int32 → Prop, post e → wpY_inside post (yT, ytr, ep, yD, yE, lv, yt, c, a, stk, em, ce, po, yc, ye) (nI p)) ∧ (e = 0 → sk_Ok c a p) := by
  have e : c (nI p).toNatClampNeg = 27 := by rw [nI_clamp (n := p) (by omega)]; exact hc
  have e2 : a (nI p).toNatClampNeg = a p := by rw [nI_clamp (n := p) (by omega)]
  by_cases h : sk_R c p = []
  · have hs : sk_hs c (sk_R c p) = -1 := by rw [h]; rfl
    refine ⟨0, ?_, ?_, ?_⟩
    · intro post hpost
      exact ⟨vp_in_nI (n := p) hp (by decide), nm_r e (br_f (by decide) (br_f (by decide) (br_f (by decide) (br_f (by decide) (br_f (by decide) (br_f (by decide) (br_f (by decide) (br_f (by decide) (br_f (by decide) (br_f (by decide) (br_f (by decide) (br_f (by decide) (br_f (by decide) (br_f (by decide) (br_t rfl (sx_last h6 hL (br_f (by decide) (br_t (by decide) (br_t hs (br_f (by decide) hpost))))))))))))))))))))⟩
    · intro post hpost
      exact ⟨vp_in_nI (n := p) hp (by decide), nm_r e (sy_sort (Nat.le_of_lt hp) W1 (br_f (by decide) (br_f (by decide) (br_f (by decide) (br_f (by decide) (br_f (by decide) (br_f (by decide) (br_f (by decide) (br_f (by decide) (br_f (by decide) (br_f (by decide) (br_f (by decide) (br_t rfl (br_t (by rw [hs]; decide) (sy_opF (by decide) (br_t rfl hpost))))))))))))))))⟩
    · exact fun _ => ⟨⟨by rw [hc]; decide, by rw [hc]; decide, by rw [hc]; decide⟩, (fun y => absurd (hc.symm.trans y) (by decide)), (fun y => by rw [hc] at y; exact absurd y (by decide)), (fun y => absurd (hc.symm.trans y) (by decide)), (fun y => absurd (hc.symm.trans y) (by decide)), (fun y => absurd (hc.symm.trans y) (by decide)), (fun y => absurd (hc.symm.trans y) (by decide)), (fun y => absurd (hc.symm.trans y) (by decide)), (fun y => absurd (hc.symm.trans y) (by decide)), (fun y => absurd (hc.symm.trans y) (by decide)), (fun _ => h)⟩
  · have hs := sk_hsN h
    refine ⟨4, ?_, ?_, ?_⟩
    · intro post hpost
      exact ⟨vp_in_nI (n := p) hp (by decide), nm_r e (br_f (by decide) (br_f (by decide) (br_f (by decide) (br_f (by decide) (br_f (by decide) (br_f (by decide) (br_f (by decide) (br_f (by decide) (br_f (by decide) (br_f (by decide) (br_f (by decide) (br_f (by decide) (br_f (by decide) (br_f (by decide) (br_t rfl (sx_last h6 hL (br_f (by decide) (br_t (by decide) (br_f hs.2 (br_t rfl hpost))))))))))))))))))))⟩
    · intro post hpost
      exact ⟨vp_in_nI (n := p) hp (by decide), nm_r e (sy_sort (Nat.le_of_lt hp) W1 (br_f (by decide) (br_f (by decide) (br_f (by decide) (br_f (by decide) (br_f (by decide) (br_f (by decide) (br_f (by decide) (br_f (by decide) (br_f (by decide) (br_f (by decide) (br_f (by decide) (br_t rfl (br_f hs.1 hpost))))))))))))))⟩
    · exact fun y => absurd y (by decide)
theorem se_lo {p : Nat} (hp : p < 80) (h6 : (sk_R c p).length ≤ 6) (hL : sk_LA c ps pst psk (sk_R c p)) (hH : sk_HI c p (sk_R c p)) (W1 : ∀ q, q < p → (c q = 17 ∨ c q = 21) → sk_R c q ≠ []) (W2 : ∀ q, q < p → sk_cl (c q) → sk_R c q ≠ []) (h15 : c p < 15) : ∃ e : Int32, (∀ post : Int32 → Prop, post e → wpX_errorInside post (xT, tr, ep, ind, vc, nI (sk_R c p).length, xD, xE, cur, tu, ca, c, a, nm, nv, ps, pst, psk, jm, cp, stk, em, ce, rp, ct, cm) (nI p)) ∧ (∀ post : Int32 → Prop, post e → wpY_inside post (yT, ytr, ep, yD, yE, lv, yt, c, a, stk, em, ce, po, yc, ye) (nI p)) ∧ (e = 0 → sk_Ok c a p) := by
  have e : c (nI p).toNatClampNeg = c p := by rw [nI_clamp (n := p) (by omega)]
  have ne : ∀ k : Int32, ¬ k < 15 → ¬ c p = k := fun k hk y => hk (y ▸ h15)
  by_cases h0 : c p < 0
  · refine ⟨1, ?_, ?_, fun y => absurd y (by decide)⟩
    · intro post hpost
      exact ⟨vp_in_nI (n := p) hp (by decide), nm_r e (br_t h15 (br_t h0 hpost))⟩
    · intro post hpost
      exact ⟨vp_in_nI (n := p) hp (by decide), nm_r e (sy_sort (Nat.le_of_lt hp) W1 (br_t h0 hpost))⟩
  · have h14 : ¬ 14 < c p := by
      rw [Int32.lt_iff_toInt_lt] at h15 ⊢
      have i1 : (15 : Int32).toInt = 15 := by decide
      have i2 : (14 : Int32).toInt = 14 := by decide
      omega
    have h27 : ¬ 27 < c p := by
      rw [Int32.lt_iff_toInt_lt] at h15 ⊢
      have i1 : (15 : Int32).toInt = 15 := by decide
      have i2 : (27 : Int32).toInt = 27 := by decide
      omega
    refine ⟨0, ?_, ?_, fun _ => ?_⟩
    · intro post hpost
      exact ⟨vp_in_nI (n := p) hp (by decide), nm_r e (br_t h15 (br_f h0 (br_f h14 hpost)))⟩
    · intro post hpost
      exact ⟨vp_in_nI (n := p) hp (by decide), nm_r e (sy_sort (Nat.le_of_lt hp) W1 (br_f h0 (br_f h27 (br_f (ne 26 (by decide)) (br_f (ne 15 (by decide)) (br_f (ne 17 (by decide)) (br_f (ne 18 (by decide)) (br_f (ne 20 (by decide)) (br_f (ne 21 (by decide)) (br_f (ne 22 (by decide)) (br_f (ne 24 (by decide)) (br_f (ne 25 (by decide)) (br_f (ne 27 (by decide)) (sy_opF (fun y => by rcases y with y | y | y <;> exact ne _ (by decide) y) (br_t rfl hpost)))))))))))))))⟩
    · exact ⟨⟨h0, h27, ne 26 (by decide)⟩, fun y => absurd y (ne 15 (by decide)), fun y => absurd y (fun y => by rcases y with y | y | y <;> exact ne _ (by decide) y), fun y => absurd y (ne 17 (by decide)), fun y => absurd y (ne 18 (by decide)), fun y => absurd y (ne 20 (by decide)), fun y => absurd y (ne 21 (by decide)), fun y => absurd y (ne 22 (by decide)), fun y => absurd y (ne 24 (by decide)), fun y => absurd y (ne 25 (by decide)), fun y => absurd y (ne 27 (by decide))⟩
theorem se_hi {p : Nat} (hp : p < 80) (h6 : (sk_R c p).length ≤ 6) (hL : sk_LA c ps pst psk (sk_R c p)) (hH : sk_HI c p (sk_R c p)) (W1 : ∀ q, q < p → (c q = 17 ∨ c q = 21) → sk_R c q ≠ []) (W2 : ∀ q, q < p → sk_cl (c q) → sk_R c q ≠ []) (h27 : 27 < c p) : ∃ e : Int32, (∀ post : Int32 → Prop, post e → wpX_errorInside post (xT, tr, ep, ind, vc, nI (sk_R c p).length, xD, xE, cur, tu, ca, c, a, nm, nv, ps, pst, psk, jm, cp, stk, em, ce, rp, ct, cm) (nI p)) ∧ (∀ post : Int32 → Prop, post e → wpY_inside post (yT, ytr, ep, yD, yE, lv, yt, c, a, stk, em, ce, po, yc, ye) (nI p)) ∧ (e = 0 → sk_Ok c a p) := by
  have e : c (nI p).toNatClampNeg = c p := by rw [nI_clamp (n := p) (by omega)]
  have i3 : (27 : Int32).toInt = 27 := by decide
  have h15 : ¬ c p < 15 := by
    have i1 : (15 : Int32).toInt = 15 := by decide
    rw [Int32.lt_iff_toInt_lt] at h27 ⊢
    omega
  have h0 : ¬ c p < 0 := by
    have i1 : (0 : Int32).toInt = 0 := by decide
    rw [Int32.lt_iff_toInt_lt] at h27 ⊢
    omega
  have h14 : 14 < c p := by
    have i1 : (14 : Int32).toInt = 14 := by decide
    rw [Int32.lt_iff_toInt_lt] at h27 ⊢
    omega
  refine ⟨1, ?_, ?_, fun y => absurd y (by decide)⟩
  · intro post hpost
    exact ⟨vp_in_nI (n := p) hp (by decide), nm_r e (br_f h15 (br_t h27 (br_f h0 (br_t h14 hpost))))⟩
  · intro post hpost
    exact ⟨vp_in_nI (n := p) hp (by decide), nm_r e (sy_sort (Nat.le_of_lt hp) W1 (br_f h0 (br_t h27 hpost)))⟩
theorem se_26 {p : Nat} (hp : p < 80) (h6 : (sk_R c p).length ≤ 6) (hL : sk_LA c ps pst psk (sk_R c p)) (hH : sk_HI c p (sk_R c p)) (W1 : ∀ q, q < p → (c q = 17 ∨ c q = 21) → sk_R c q ≠ []) (W2 : ∀ q, q < p → sk_cl (c q) → sk_R c q ≠ []) (hc : c p = 26) : ∃ e : Int32, (∀ post : Int32 → Prop, post e → wpX_errorInside post (xT, tr, ep, ind, vc, nI (sk_R c p).length, xD, xE, cur, tu, ca, c, a, nm, nv, ps, pst, psk, jm, cp, stk, em, ce, rp, ct, cm) (nI p)) ∧ (∀ post : Int32 → Prop, post e → wpY_inside post (yT, ytr, ep, yD, yE, lv, yt, c, a, stk, em, ce, po, yc, ye) (nI p)) ∧ (e = 0 → sk_Ok c a p) := by
  have e : c (nI p).toNatClampNeg = 26 := by rw [nI_clamp (n := p) (by omega)]; exact hc
  refine ⟨1, ?_, ?_, fun y => absurd y (by decide)⟩
  · intro post hpost
    exact ⟨vp_in_nI (n := p) hp (by decide), nm_r e (br_f (by decide) (br_f (by decide) (br_f (by decide) (br_f (by decide) (br_f (by decide) (br_f (by decide) (br_f (by decide) (br_f (by decide) (br_f (by decide) (br_f (by decide) (br_f (by decide) (br_f (by decide) (br_f (by decide) (br_t rfl (br_f (by decide) (br_t (by decide) hpost))))))))))))))))⟩
  · intro post hpost
    exact ⟨vp_in_nI (n := p) hp (by decide), nm_r e (sy_sort (Nat.le_of_lt hp) W1 (br_f (by decide) (br_f (by decide) (br_t rfl hpost))))⟩
theorem sk_cases (x : Int32) : x < 15 ∨ 27 < x ∨ x = 15 ∨ x = 16 ∨ x = 17 ∨ x = 18 ∨ x = 19 ∨ x = 20 ∨ x = 21 ∨ x = 22 ∨ x = 23 ∨ x = 24 ∨ x = 25 ∨ x = 26 ∨ x = 27 := by
  by_cases h1 : x < 15
  · exact Or.inl h1
  · by_cases h2 : 27 < x
    · exact Or.inr (Or.inl h2)
    · refine Or.inr (Or.inr ?_)
      have h0 : ¬ x < 0 := by
        rw [Int32.lt_iff_toInt_lt] at h1 ⊢
        have i1 : (15 : Int32).toInt = 15 := by decide
        have i2 : (0 : Int32).toInt = 0 := by decide
        omega
      obtain ⟨j, hj, rfl⟩ := nI_of2 (M := 27) (n := 27) (by decide) h0 (Int32.not_lt.mp h2)
      have hj1 : 15 ≤ j := by
        have := (nI_ltI (a := j) (b := 15) (by omega) (by omega))
        have h1' : ¬ nI j < nI 15 := h1
        rw [this] at h1'
        omega
      have : j = 15 ∨ j = 16 ∨ j = 17 ∨ j = 18 ∨ j = 19 ∨ j = 20 ∨ j = 21 ∨ j = 22 ∨ j = 23 ∨ j = 24 ∨ j = 25 ∨ j = 26 ∨ j = 27 := by omega
      rcases this with h | h | h | h | h | h | h | h | h | h | h | h | h <;> subst h <;> decide
theorem se_all {p : Nat} (hp : p < 80) (h6 : (sk_R c p).length ≤ 6) (hL : sk_LA c ps pst psk (sk_R c p)) (hH : sk_HI c p (sk_R c p)) (W1 : ∀ q, q < p → (c q = 17 ∨ c q = 21) → sk_R c q ≠ []) (W2 : ∀ q, q < p → sk_cl (c q) → sk_R c q ≠ []) : ∃ e : Int32, (∀ post : Int32 → Prop, post e → wpX_errorInside post (xT, tr, ep, ind, vc, nI (sk_R c p).length, xD, xE, cur, tu, ca, c, a, nm, nv, ps, pst, psk, jm, cp, stk, em, ce, rp, ct, cm) (nI p)) ∧ (∀ post : Int32 → Prop, post e → wpY_inside post (yT, ytr, ep, yD, yE, lv, yt, c, a, stk, em, ce, po, yc, ye) (nI p)) ∧ (e = 0 → sk_Ok c a p) := by
  rcases sk_cases (c p) with h | h | h | h | h | h | h | h | h | h | h | h | h | h | h
  · exact se_lo hp h6 hL hH W1 W2 h
  · exact se_hi hp h6 hL hH W1 W2 h
  · exact se_15 hp h6 hL hH W1 W2 h
  · exact se_16 hp h6 hL hH W1 W2 h
  · exact se_17 hp h6 hL hH W1 W2 h
  · exact se_18 hp h6 hL hH W1 W2 h
  · exact se_19 hp h6 hL hH W1 W2 h
  · exact se_20 hp h6 hL hH W1 W2 h
  · exact se_21 hp h6 hL hH W1 W2 h
  · exact se_22 hp h6 hL hH W1 W2 h
  · exact se_23 hp h6 hL hH W1 W2 h
  · exact se_24 hp h6 hL hH W1 W2 h
  · exact se_25 hp h6 hL hH W1 W2 h
  · exact se_26 hp h6 hL hH W1 W2 h
  · exact se_27 hp h6 hL hH W1 W2 h
end
